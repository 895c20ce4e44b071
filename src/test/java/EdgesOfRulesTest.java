/**
 * RULES dropped, put first, asked about and shown (promises 6 to 9): each sentence of the document that
 * names an edge has a test of its own.
 */
public final class EdgesOfRulesTest extends Hand {
    private static final String FIVE = "a>b;b>a;f(x)>x;g(x,y)>y;g(y,x)>a;";
    private static final String[] SHOWN = {"a>b", "b>a", "f(x)>x", "g(x,y)>y", "g(y,x)>a"};

    public static void main(String[] args) {
        dropsOfNoRule();
        dropsOfEach();
        dropsOfTheLastOne();
        firstOfNoRule();
        firstOfEach();
        ofNoRule();
        ofNothingAsked();
        ofBothWrong();
        ofNodes();
        ofTheByteLeftBeginsWith();
        ofUnknowns();
        ofCalls();
        shownOfNoRule();
        shownBelowNone();
        shownHowMany();
        shownNotSoMany();
        shownShortest();
        shownLongest();
        DUE.end();
    }

    private static void dropsOfNoRule() {
        about("Promise 6: BAD.");
        FallingRules none = new FallingRules();
        dueBadOutside(none, "without RULES: drops", 0, -1, none::drops);
        dueRefused(none, "without RULES: drops(0)", () -> none.drops(0), BAD);
        FallingRules one = with("a>b;");
        dueBadOutside(one, "one RULE: drops", 0, 0, one::drops);
        FallingRules five = with(FIVE);
        dueBadOutside(five, "RULES 0 .. 4: drops", 0, 4, five::drops);
    }

    private static void dropsOfEach() {
        about("Promise 6: A RULE goes (those behind it are one nearer): how many are left.");
        for (int r = 0; r < 5; r++) {
            FallingRules x = with(FIVE);
            due("drops(" + r + ")", x.drops(r), 4);
            String[] left = new String[4];
            System.arraycopy(SHOWN, 0, left, 0, r);
            System.arraycopy(SHOWN, r + 1, left, r, 4 - r);
            dueShown(x, left);
            due("drops(4) of four", x.drops(4), BAD);
        }
    }

    private static void dropsOfTheLastOne() {
        about("Promise 6: how many are left");
        FallingRules x = with(FIVE);
        for (int left = 4; left >= 0; left--) {
            due("drops(0)", x.drops(0), left);
        }
        dueRefused(x, "drops(0) of none", () -> x.drops(0), BAD);
        due("fall() without RULES", x.fall(), 111);
        due("calls(0) without RULES", x.calls(0), 0);
        due("reads() into none", reads(x, "b>b;"), 1);
        dueShown(x, "b>b");
    }

    private static void firstOfNoRule() {
        about("Promise 7: BAD.");
        FallingRules none = new FallingRules();
        dueRefused(none, "without RULES: first(0)", () -> none.first(0), BAD);
        FallingRules one = with("a>b;");
        dueBadOutside(one, "one RULE: first", 0, 0, one::first);
        FallingRules five = with(FIVE);
        dueBadOutside(five, "RULES 0 .. 4: first", 0, 4, five::first);
    }

    private static void firstOfEach() {
        about("Promise 7: A RULE comes first, the others as they were: the place it had.");
        for (int r = 0; r < 5; r++) {
            FallingRules x = with(FIVE);
            due("first(" + r + ")", x.first(r), r);
            String[] then = new String[5];
            then[0] = SHOWN[r];
            System.arraycopy(SHOWN, 0, then, 1, r);
            System.arraycopy(SHOWN, r + 1, then, r + 1, 4 - r);
            dueShown(x, then);
        }
    }

    private static void ofNoRule() {
        about("Promise 8: BAD.");
        FallingRules none = new FallingRules();
        for (int what = 0; what <= 5; what++) {
            due("without RULES: of(0, " + what + ")", none.of(0, what), BAD);
        }
        due("told(0)", none.told(0), 6);
        FallingRules one = with("a>b;");
        dueBadOutside(one, "one RULE: of(.., 0)", 0, 0, r -> one.of(r, 0));
        FallingRules five = with(FIVE);
        dueBadOutside(five, "five: of(.., 0)", 0, 4, r -> five.of(r, 0));
        dueBadOutside(five, "five: of(.., 5)", 0, 4, r -> five.of(r, 5));
    }

    private static void ofNothingAsked() {
        about("Promise 8: BAD. (what 0 .. 5)");
        FallingRules x = with(FIVE);
        dueBadOutside(x, "of(0, ..)", 0, 5, what -> x.of(0, what));
        dueBadOutside(x, "of(4, ..)", 0, 5, what -> x.of(4, what));
    }

    private static void ofBothWrong() {
        about("Refused (a question, too), changing nothing but how often");
        FallingRules x = with("a>b;");
        dueRefused(x, "of(-1, 6) counts once", () -> x.of(-1, 6), BAD);
        dueRefused(x, "of(1, -1) counts once", () -> x.of(1, -1), BAD);
    }

    private static void ofNodes() {
        about("Promise 8: NODES of LEFT (what 0), of RIGHT (1)");
        String twelve = nested(11, "a");
        FallingRules x = with("a>" + twelve + ";" + twelve + ">b;");
        due("the least LEFT", x.of(0, 0), 1);
        due("the greatest RIGHT", x.of(0, 1), 12);
        due("the greatest LEFT", x.of(1, 0), 12);
        due("the least RIGHT", x.of(1, 1), 1);
    }

    private static void ofTheByteLeftBeginsWith() {
        about("Promise 8: the byte LEFT begins with (2)");
        FallingRules x = with(" a>b; b>a;f(x)>a; g(x,y)>a;");
        int[] bytes = {97, 98, 102, 103};
        for (int r = 0; r < 4; r++) {
            due("of(" + r + ", 2)", x.of(r, 2), bytes[r]);
        }
    }

    private static void ofUnknowns() {
        about("Promise 8: UNKNOWNS of LEFT (3: 1 x, 2 y, 3 both), of RIGHT (4)");
        FallingRules x = with("a>b;f(x)>x;f(y)>g(y,y);g(y,x)>g(x,f(y));g(x,y)>a;");
        int[] left = {0, 1, 2, 3, 3};
        int[] right = {0, 1, 2, 3, 0};
        for (int r = 0; r < 5; r++) {
            due("of(" + r + ", 3)", x.of(r, 3), left[r]);
            due("of(" + r + ", 4)", x.of(r, 4), right[r]);
        }
        FallingRules y = with("g(x,y)>x;g(x,y)>y;");
        due("RIGHT has x alone", y.of(0, 4), 1);
        due("RIGHT has y alone", y.of(1, 4), 2);
    }

    private static void ofCalls() {
        about("Promise 8: CALLS of it (5)");
        FallingRules x = with("f(a)>" + nested(11, "a") + ";a>f(b);f(b)>b;");
        due("all twelve", x.of(0, 5), 12);
        due("one of two", x.of(1, 5), 1);
        due("none", x.of(2, 5), 0);
        x.drops(1);
        due("a is no HEAD any more", x.of(0, 5), 11);
        x.back();
        due("a is one again", x.of(0, 5), 12);
    }

    private static void shownOfNoRule() {
        about("Promise 9: BAD");
        FallingRules none = new FallingRules();
        dueRefused(none, "without RULES: shown(0, 0)", () -> none.shown(0, 0), BAD);
        dueRefused(none, "without RULES: shown(0, NONE)", () -> none.shown(0, NONE), BAD);
        FallingRules five = with(FIVE);
        dueBadOutside(five, "five: shown(.., 0)", 0, 4, r -> five.shown(r, 0));
        dueBadOutside(five, "five: shown(.., NONE)", 0, 4, r -> five.shown(r, NONE));
        dueRefused(five, "both wrong, counted once", () -> five.shown(5, -2), BAD);
    }

    private static void shownBelowNone() {
        about("Promise 9: BAD: k below -1, too.");
        FallingRules x = with(FIVE);
        for (int k : new int[] {-2, -3, -5, -256, Integer.MIN_VALUE}) {
            dueRefused(x, "shown(0, " + k + ")", () -> x.shown(0, k), BAD);
        }
    }

    private static void shownHowMany() {
        about("Promise 9: how many (k NONE)");
        FallingRules x = with(" g ( x , y )  >  f ( y ) ;");
        due("shown(0, NONE)", x.shown(0, NONE), "g(x,y)>f(y)".length());
        dueShown(x, "g(x,y)>f(y)");
    }

    private static void shownNotSoMany() {
        about("Promise 9: -5: not so many");
        FallingRules x = with("f(x)>x;");
        due("the last byte", x.shown(0, 5), 'x');
        dueNoChange(x, "shown beyond", () -> {
            due("one beyond", x.shown(0, 6), FEWER);
            due("two beyond", x.shown(0, 7), FEWER);
            due("far beyond", x.shown(0, Integer.MAX_VALUE), FEWER);
        });
    }

    private static void shownShortest() {
        about("Promise 9: The k-th byte (0 on) of a RULE, written without blanks, LEFT > RIGHT");
        FallingRules x = with(" b > a ; ");
        due("the first byte", x.shown(0, 0), 'b');
        due("the second byte", x.shown(0, 1), '>');
        due("the last byte", x.shown(0, 2), 'a');
        due("no ; behind it", x.shown(0, 3), FEWER);
        due("shown(0, NONE)", x.shown(0, NONE), 3);
    }

    private static void shownLongest() {
        about("Promise 9: The k-th byte (0 on) of a RULE, written without blanks, LEFT > RIGHT");
        String row = nested(11, "y");
        dueShown(with(row + ">" + row + ";"), row + ">" + row);
        String leftward = "f(g(g(g(g(g(a,b),a),b),x),y))";
        String rightward = "f(g(y,g(x,g(b,g(a,g(b,a))))))";
        dueShown(with(leftward + ">" + rightward + ";"), leftward + ">" + rightward);
        String wide = "g(g(g(a,b),f(x)),g(f(f(y)),b))";
        dueShown(with(wide + ">" + wide + ";"), wide + ">" + wide);
    }
}
