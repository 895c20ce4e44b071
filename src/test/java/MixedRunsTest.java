import java.util.Map;
import java.util.Random;
import java.util.TreeMap;

/** Mixed runs of up to 512 calls, each answer compared with the Oracle's; the seeds are fixed. */
public final class MixedRunsTest {
    private static final int RUNS = Integer.getInteger("runs", 600);
    private static final int FIRST_SEED = Integer.getInteger("seed", 1);
    /** What an object answers behind these is free. */
    private static final int CALLS_MOST = 512;
    /** A text cleared, typed and read. */
    private static final int CALLS_OF_A_TEXT = 126;

    /** RULES that fall, RULES that go round, RULES that can't be told by weights, far sides, deep ones. */
    private static final String[] KNOWN = {
        "g(a,y)>y;g(f(x),y)>f(g(x,y));",
        "f(x)>g(x,x);",
        "g(x,x)>x;g(x,f(y))>g(y,f(x));",
        "f(g(x,y))>g(f(x),f(y));",
        "f(f(x))>f(x);f(a)>f(f(a));",
        "a>b;b>a;",
        "a>f(a);",
        "f(f(x))>f(g(f(x),b));",
        "f(a)>g(f(b),f(b));f(b)>b;",
        "g(g(x,y),y)>g(x,f(y));",
        "g(f(x),f(y))>g(x,y);g(x,a)>x;g(a,y)>a;",
        "f(g(f(a),x))>g(f(f(x)),a);",
        "f(f(f(f(f(f(f(f(f(f(f(x)))))))))))>g(g(g(x,x),g(x,x)),g(x,g(x,a)));",
        "g(x,y)>f(g(y,x));",
        "b>g(a,a);a>x;",
        "f(a)>f(b);g(b,x)>g(f(x),a);f(b)>g(a,a);",
    };

    private final Random random;
    private final FallingRules made = new FallingRules();
    private final Oracle oracle = new Oracle();
    private final Due due;
    private final int run;
    private int calls;
    static final Map<String, Integer> SEEN = new TreeMap<>();

    private MixedRunsTest(int run, Due due) {
        this.run = run;
        this.due = due;
        this.random = new Random(run);
    }

    public static void main(String[] args) {
        Due due = new Due();
        for (int run = FIRST_SEED; run < FIRST_SEED + RUNS && !due.anyWrong(); run++) {
            new MixedRunsTest(run, due).go();
        }
        if (args.length > 1) {
            SEEN.forEach((what, often) -> System.out.println(what + ": " + often));
        }
        due.end();
    }

    private void go() {
        while (calls < CALLS_MOST - 1 && !due.anyWrong()) {
            step(calls + CALLS_OF_A_TEXT < CALLS_MOST);
        }
        check("digest()", made.digest(), oracle.digest());
    }

    private void check(String call, long got, long want) {
        calls++;
        due.answer("run " + run + ": " + oracle + "\n   " + call, got, want);
        String kind = call.substring(0, call.indexOf('('));
        SEEN.merge(kind + " " + (want < 0 ? "" + Math.max(want, -10) : want == 0 ? "0" : "more"), 1, Integer::sum);
    }

    private void types(String text) {
        check("clear()", made.clear(), oracle.clear());
        for (int i = 0; i < text.length(); i++) {
            int c = text.charAt(i);
            check("type(" + c + ")", made.type(c), oracle.type(c));
        }
    }

    private int number(int below) {
        return random.nextInt(12) == 0 ? random.nextInt(200) - 100 : random.nextInt(below + 2) - 1;
    }

    private int weights() {
        if (random.nextInt(10) == 0) {
            return random.nextInt(5000000) - 500000;
        }
        int n = 0;
        int top = random.nextInt(8) == 0 ? 5 : 4;
        for (int i = 0; i < 7; i++) {
            n = 10 * n + random.nextInt(top);
        }
        return n;
    }

    private void step(boolean roomForAText) {
        int kind = roomForAText ? random.nextInt(100) : 8 + random.nextInt(92);
        if (kind < 4) {
            types(disturbed(rulesText()));
            check("reads()", made.reads(), oracle.reads());
        } else if (kind < 8) {
            String blanks = random.nextInt(20) == 0 ? " ".repeat(100) : "";
            types(disturbed(blanks + termText(random.nextInt(7), "abxy")));
            check("term()", made.term(), oracle.term());
        } else if (kind < 12) {
            dropOrGoBack();
        } else if (kind < 40) {
            askRules();
        } else if (kind < 70) {
            askCalls();
        } else if (kind < 95) {
            askTurned();
        } else if (random.nextInt(3) == 0) {
            check("digest()", made.digest(), oracle.digest());
        } else {
            int c = random.nextInt(160) - 16;
            check("type(" + c + ")", made.type(c), oracle.type(c));
        }
    }

    private void dropOrGoBack() {
        int r = number(5);
        switch (random.nextInt(5)) {
            case 0 -> check("drops(" + r + ")", made.drops(r), oracle.drops(r));
            case 1 -> check("first(" + r + ")", made.first(r), oracle.first(r));
            case 2 -> check("reads()", made.reads(), oracle.reads());
            case 3 -> check("term()", made.term(), oracle.term());
            default -> check("back()", made.back(), oracle.back());
        }
    }

    private void askRules() {
        int r = number(5);
        int what = number(6);
        int k = number(40);
        int w = weights();
        switch (random.nextInt(5)) {
            case 0 -> check("of(" + r + ", " + what + ")", made.of(r, what), oracle.of(r, what));
            case 1 -> check("shown(" + r + ", " + k + ")", made.shown(r, k), oracle.shown(r, k));
            case 2 -> check("weighs(" + w + ", " + r + ")", made.weighs(w, r), oracle.weighs(w, r));
            case 3 -> check("weight(" + w + ")", made.weight(w), oracle.weight(w));
            default -> check("fall()", made.fall(), oracle.fall());
        }
    }

    private void askCalls() {
        int what = number(4);
        int c = number(12);
        int d = number(12);
        int k = number(2);
        switch (random.nextInt(4)) {
            case 0 -> check("calls(" + what + ")", made.calls(what), oracle.calls(what));
            case 1 -> check("call(" + c + ", " + what + ")", made.call(c, what), oracle.call(c, what));
            case 2 -> check("follows(" + c + ", " + d + ")", made.follows(c, d), oracle.follows(c, d));
            default -> check("lighter(" + k + ")", made.lighter(k), oracle.lighter(k));
        }
    }

    private void askTurned() {
        int what = number(7);
        int n = random.nextInt(4) == 0 ? 30 : number(4);
        int k = number(60);
        switch (random.nextInt(5)) {
            case 0 -> check("turns(" + n + ")", made.turns(n), oracle.turns(n));
            case 1 -> check("settles()", made.settles(), oracle.settles());
            case 2 -> check("next(" + what % 3 + ")", made.next(what % 3), oracle.next(what % 3));
            case 3 -> check("letter(" + k + ")", made.letter(k), oracle.letter(k));
            default -> check("told(" + what + ")", made.told(what), oracle.told(what));
        }
    }

    private String rulesText() {
        if (random.nextInt(3) == 0) {
            return KNOWN[random.nextInt(KNOWN.length)];
        }
        StringBuilder text = new StringBuilder();
        int deeper = random.nextInt(8) == 0 ? 2 : 0;
        for (int n = random.nextInt(4); n >= 0; n--) {
            String left = termText(1 + random.nextInt(3) + deeper, "abxy");
            boolean bare = left.equals("x") || left.equals("y");
            left = bare && random.nextInt(20) != 0 ? "f(" + left + ")" : left;
            String leaves = "ab" + (left.contains("x") ? "xx" : "") + (left.contains("y") ? "yy" : "");
            if (random.nextInt(30) == 0) {
                leaves += "xy";
            }
            text.append(left).append('>').append(termText(random.nextInt(4) + deeper, leaves)).append(';');
        }
        return text.toString();
    }

    private String termText(int depth, String leaves) {
        int kind = depth <= 0 ? 0 : random.nextInt(7);
        if (kind <= 1) {
            return "" + leaves.charAt(random.nextInt(leaves.length()));
        }
        if (kind <= 4) {
            return "f(" + termText(depth - 1, leaves) + ")";
        }
        return "g(" + termText(depth - 1, leaves) + "," + termText(depth - 1, leaves) + ")";
    }

    /** Now and then with blanks put in, or with a byte put in, taken out or changed. */
    private String disturbed(String text) {
        StringBuilder out = new StringBuilder(text);
        for (int n = random.nextInt(3) == 0 ? random.nextInt(6) : 0; n > 0; n--) {
            out.insert(random.nextInt(out.length() + 1), ' ');
        }
        if (random.nextInt(5) == 0 && out.length() > 0) {
            int place = random.nextInt(out.length());
            char c = "abxyfg(),>; c%".charAt(random.nextInt(14));
            switch (random.nextInt(4)) {
                case 0 -> out.insert(place, c);
                case 1 -> out.deleteCharAt(place);
                case 2 -> out.setCharAt(place, c);
                default -> out.setLength(place);
            }
        }
        return out.length() > 124 ? out.substring(0, 124) : out.toString();
    }
}
