import java.math.BigInteger;
import java.util.ArrayList;
import java.util.List;
import java.util.function.Supplier;

/**
 * STATES, refused calls, what is told, and the digest (promises 21 to 23): each sentence of the document
 * that names an edge has a test of its own.
 */
public final class EdgesOfStatesTest extends Hand {
    public static void main(String[] args) {
        noneToGoBackTo();
        eachCallToldSLeavesOne();
        alsoIfNothingChanges();
        faultsLeaveNone();
        refusedCallsLeaveNone();
        questionsLeaveNone();
        fiveAtMost();
        olderOnesLost();
        backTellsHowManyCanBeYet();
        backLeavesNone();
        backFromEachCall();
        rulesAndTheTermGoBack();
        onlyRulesAndTheTermGoBack();
        fullAgainBehindBack();
        answersBehindBack();
        toldOfNothingAsked();
        toldBad();
        toldNo();
        toldFull();
        toldWithoutFaults();
        toldLeastAndGreatest();
        aLongRun();
        digestOfANewObject();
        digestWrapsAround();
        digestOfTheGreatest();
        digestChangesNothing();
        digestIsOfEachPart();
        DUE.end();
    }

    private static void noneToGoBackTo() {
        about("Promise 21: NO: none.");
        FallingRules x = new FallingRules();
        dueRefused(x, "back() of a new object", x::back, NO);
        dueRefused(x, "back() again", x::back, NO);
        reads(x, "a>b;");
        due("back()", x.back(), 0);
        dueRefused(x, "back() with none left", x::back, NO);
        due("told(4)", x.told(4), 0);
    }

    private static void eachCallToldSLeavesOne() {
        about("STATES: each call told S, if it is not refused, leaves one");
        FallingRules x = new FallingRules();
        reads(x, "a>b;b>a;");
        due("reads(): told(6)", x.told(6), 1);
        term(x, "f(a)");
        due("term(): told(6)", x.told(6), 2);
        x.drops(1);
        due("drops(): told(6)", x.told(6), 3);
        x.first(0);
        due("first(): told(6)", x.told(6), 4);
        x.turns(1);
        due("turns(): told(6)", x.told(6), 5);
    }

    private static void alsoIfNothingChanges() {
        about("STATES: .. leaves one, also if nothing changes by it");
        FallingRules x = new FallingRules();
        due("term() of the same", term(x, "a"), 1);
        due("told(6)", x.told(6), 1);
        due("turns(0)", x.turns(0), 0);
        due("told(6)", x.told(6), 2);
        due("turns(30) without a TURN", x.turns(30), 0);
        due("told(6)", x.told(6), 3);
        FallingRules y = with("a>b;b>a;");
        due("first(0)", y.first(0), 0);
        due("told(6)", y.told(6), 2);
        for (int left = 1; left >= 0; left--) {
            due("back()", y.back(), left);
        }
    }

    private static void faultsLeaveNone() {
        about("STATES: .. (reads(), term() with a FAULT none)");
        FallingRules x = with("a>b;");
        reads(x, "a>x;");
        due("reads(): told(6)", x.told(6), 1);
        reads(x, "");
        due("reads() of an empty text: told(6)", x.told(6), 1);
        reads(x, "b>a;".repeat(5));
        due("reads() with a 6th RULE: told(6)", x.told(6), 1);
        term(x, "f(a");
        due("term(): told(6)", x.told(6), 1);
        due("back()", x.back(), 0);
    }

    private static void refusedCallsLeaveNone() {
        about("STATES: each call told S, if it is not refused");
        FallingRules x = with("a>b;");
        x.drops(1);
        x.drops(-1);
        x.first(1);
        x.first(-1);
        x.turns(31);
        x.turns(-1);
        due("told(0)", x.told(0), 6);
        due("told(6)", x.told(6), 1);
        due("back()", x.back(), 0);
    }

    private static void questionsLeaveNone() {
        about("STATES: each call told S .. leaves one (no other one does)");
        FallingRules x = with("f(f(x))>f(x);", "f(f(a))");
        dueNoChange(x, "questions", () -> {
            x.of(0, 5);
            x.shown(0, 0);
            x.fall();
            x.weighs(1111111, 0);
            x.weight(1111111);
            x.calls(2);
            x.call(0, 3);
            x.follows(0, 0);
            x.lighter(0);
            x.settles();
            x.next(0);
            x.letter(0);
            x.told(6);
            x.digest();
        });
        x.type('a');
        due("type(): told(6)", x.told(6), 2);
        x.clear();
        due("clear(): told(6)", x.told(6), 2);
    }

    private static void fiveAtMost() {
        about("STATES: .. 5 at most");
        FallingRules x = new FallingRules();
        for (int n = 1; n <= 8; n++) {
            x.turns(0);
            due("told(6) behind " + n, x.told(6), Math.min(n, 5));
        }
    }

    /** THE TERM becomes f (a), f (f (a)), ..: n calls told S, then back as far as can be. */
    private static void olderOnesLost() {
        about("STATES: .. 5 at most, older ones lost");
        for (int n = 1; n <= 8; n++) {
            FallingRules x = with("a>f(a);");
            for (int i = 0; i < n - 1; i++) {
                x.turns(1);
            }
            int can = Math.min(n, 5);
            for (int left = can - 1; left >= 0; left--) {
                due(n + " left, back()", x.back(), left);
            }
            due(n + " left, then back()", x.back(), NO);
            due(n + " left, the oldest one's RULES", x.told(4), n <= 5 ? 0 : 1);
            due(n + " left, the oldest one's NODES", x.told(5), n <= 5 ? 1 : n - 5);
        }
    }

    private static void backTellsHowManyCanBeYet() {
        about("Promise 21: A STATE back: how many can be yet.");
        FallingRules x = new FallingRules();
        for (int n = 0; n < 5; n++) {
            x.turns(0);
        }
        for (int left = 4; left >= 0; left--) {
            due("back()", x.back(), left);
            due("told(6)", x.told(6), left);
        }
    }

    private static void backLeavesNone() {
        about("Promise 21: A STATE back (it is not told S)");
        FallingRules x = with("a>b;", "f(a)");
        due("back()", x.back(), 1);
        due("back()", x.back(), 0);
        due("not forward again: back()", x.back(), NO);
        due("told(4)", x.told(4), 0);
    }

    private static void backFromEachCall() {
        about("STATES: .. to go back to (RULES, THE TERM)");
        FallingRules x = with("a>b;b>a;", "f(a)");
        x.drops(0);
        dueShown(x, "b>a");
        x.back();
        dueShown(x, "a>b", "b>a");
        x.first(1);
        dueShown(x, "b>a", "a>b");
        x.back();
        dueShown(x, "a>b", "b>a");
        x.turns(1);
        dueLetters("turns(1)", x, "fb");
        x.back();
        dueLetters("back()", x, "fa");
        x.back();
        dueLetters("back() from term()", x, "a");
        dueShown(x, "a>b", "b>a");
        x.back();
        dueShown(x);
    }

    private static void rulesAndTheTermGoBack() {
        about("STATES: .. to go back to (RULES, THE TERM)");
        String[] five = {"a>b", "b>a", "f(x)>x", "g(x,y)>y", "g(y,x)>a"};
        FallingRules x = with(String.join(";", five) + ";", "g(f(x),f(f(y)))");
        for (int n = 0; n < 4; n++) {
            x.drops(0);
        }
        due("told(4)", x.told(4), 1);
        reads(x, "f(f(f(x)))>f(x);");
        for (int n = 0; n < 5; n++) {
            x.back();
        }
        dueShown(x, five);
        dueLetters("back()", x, "gfxffy");
    }

    private static void onlyRulesAndTheTermGoBack() {
        about("STATES: .. (RULES, THE TERM) alone: THE TEXT and how often refused stay");
        FallingRules x = with("a>b;");
        x.type(128);
        x.drops(9);
        types(x, "f(b)");
        x.back();
        due("told(0)", x.told(0), 2);
        due("told(3)", x.told(3), 4);
        due("THE TEXT stays: term()", x.term(), 2);
        x.back();
        x.back();
        due("told(1)", x.told(1), 1);
        due("told(3)", x.told(3), 4);
    }

    private static void fullAgainBehindBack() {
        about("STATES: .. 5 at most, older ones lost");
        FallingRules x = with("a>f(a);");
        for (int n = 0; n < 6; n++) {
            x.turns(1);
        }
        due("back()", x.back(), 4);
        due("back()", x.back(), 3);
        x.turns(0);
        x.turns(0);
        due("told(6)", x.told(6), 5);
        x.turns(0);
        due("told(6)", x.told(6), 5);
        due("told(5)", x.told(5), 5);
        int[] nodes = {5, 5, 5, 4, 3};
        for (int n = 0; n < 5; n++) {
            due("back()", x.back(), 4 - n);
            due("told(5)", x.told(5), nodes[n]);
        }
        due("back()", x.back(), NO);
    }

    private static void answersBehindBack() {
        about("Promise 21: A STATE back (all answers are those of it)");
        FallingRules x = with("f(f(x))>f(x);");
        int[] before = {x.fall(), x.calls(0), x.calls(1), x.calls(2), x.lighter(0), x.of(0, 5), x.settles()};
        reads(x, "f(a)>f(f(b));b>b;");
        due("fall()", x.fall(), NONE);
        due("calls(2)", x.calls(2), 0);
        x.back();
        int[] then = {x.fall(), x.calls(0), x.calls(1), x.calls(2), x.lighter(0), x.of(0, 5), x.settles()};
        for (int i = 0; i < before.length; i++) {
            due("answer " + i, then[i], before[i]);
        }
    }

    private static void toldOfNothingAsked() {
        about("Promise 22: BAD.");
        FallingRules x = with("a>b;", "f(a)");
        dueBadOutside(x, "told", 0, 6, x::told);
    }

    private static void toldBad() {
        about("Promise 22: How often refused: BAD (0)");
        FallingRules x = with("f(f(x))>f(x);");
        int[] answers = {x.type(128), x.drops(1), x.first(1), x.of(1, 0), x.shown(1, 0), x.weighs(4, 0), x.weight(4),
            x.calls(3), x.call(1, 0), x.follows(1, 0), x.lighter(1), x.turns(31), x.next(2), x.letter(-2), x.told(7)};
        for (int i = 0; i < answers.length; i++) {
            due("answer " + i, answers[i], BAD);
        }
        due("told(0)", x.told(0), answers.length);
        due("told(1)", x.told(1), 0);
        due("told(2)", x.told(2), 0);
    }

    private static void toldNo() {
        about("Promise 22: How often refused: NO (1)");
        FallingRules x = new FallingRules();
        for (int n = 1; n <= 3; n++) {
            due("back()", x.back(), NO);
            due("told(1)", x.told(1), n);
        }
        due("told(0)", x.told(0), 0);
        due("told(2)", x.told(2), 0);
    }

    private static void toldFull() {
        about("Promise 22: How often refused: FULL (2)");
        FallingRules x = new FallingRules();
        types(x, " ".repeat(120));
        due("told(2) with 120", x.told(2), 0);
        for (int n = 1; n <= 3; n++) {
            due("type(' ')", x.type(' '), FULL);
            due("told(2)", x.told(2), n);
        }
        due("told(0)", x.told(0), 0);
        due("told(1)", x.told(1), 0);
    }

    private static void toldWithoutFaults() {
        about("By a FAULT nothing counts.");
        FallingRules x = new FallingRules();
        dueFault("reads()", x.reads(), 0);
        dueFault("term()", x.term(), 0);
        dueFault("reads()", reads(x, "x>a;"), 0);
        dueFault("term()", term(x, "f(x"), 3);
        dueFault("a 6th RULE", reads(x, "a>b;".repeat(6)), 20);
        for (int what = 0; what <= 2; what++) {
            due("told(" + what + ")", x.told(what), 0);
        }
        // So it is with answers that tell there is none, or not so many.
        x.letter(1);
        x.next(0);
        due("told(0)", x.told(0), 0);
    }

    private static void toldLeastAndGreatest() {
        about("Promise 22: bytes of THE TEXT (3), RULES (4), NODES of THE TERM (5), STATES (6)");
        FallingRules x = new FallingRules();
        int[] least = {0, 0, 1, 0};
        for (int i = 0; i < 4; i++) {
            due("told(" + (3 + i) + ")", x.told(3 + i), least[i]);
        }
        reads(x, "a>f(a);" + "b>a;".repeat(4));
        term(x, nested(31, "a"));
        due("turns(30)", x.turns(30), 28);
        x.turns(0);
        x.turns(0);
        due("one more", x.turns(30), 0);
        types(x, " ".repeat(121));
        int[] greatest = {120, 5, 60, 5};
        for (int i = 0; i < 4; i++) {
            due("told(" + (3 + i) + ")", x.told(3 + i), greatest[i]);
        }
    }

    private static void aLongRun() {
        about("An object is used for at most 512 calls after it has been made");
        FallingRules bad = new FallingRules();
        for (int n = 1; n <= 511; n++) {
            due("type(-1)", bad.type(-1), BAD);
        }
        due("the 512th: told(0)", bad.told(0), 511);
        FallingRules states = new FallingRules();
        for (int n = 1; n <= 511; n++) {
            due("turns(30)", states.turns(30), 0);
        }
        due("the 512th: back()", states.back(), 4);
        FallingRules cleared = new FallingRules();
        for (int n = 1; n <= 256; n++) {
            due("type('a')", cleared.type('a'), 1);
            due("clear()", cleared.clear(), 1);
        }
    }

    private static long digestOf(List<Integer> values) {
        BigInteger h = BigInteger.valueOf(2609);
        for (int v : values) {
            h = h.multiply(BigInteger.valueOf(31)).add(BigInteger.valueOf(v));
        }
        return h.longValue();
    }

    private static void digestOfANewObject() {
        about("Promise 23: h = 2609; then h = 31 h + v for each v");
        due("digest()", new FallingRules().digest(),
            digestOf(List.of(0, 0, 0, 0, 0, 1, 0, 97, 111, 0, 0, 1, 0, NONE, NONE)));
    }

    private static void digestWrapsAround() {
        about("Promise 23: h = 31 h + v (a long: it wraps around)");
        FallingRules x = with("f(f(x))>f(x);", "f(f(a))");
        List<Integer> values = List.of(0, 0, 0, 7, 1, 3, 2, 3, 2, 102, 1, 1, 1, 2, 102, 102, 97,
            10111, 1, 1, 1, 0, 2, 0, 1, 1, 0, 0);
        due("digest()", x.digest(), digestOf(values));
        BigInteger most = BigInteger.valueOf(2609).multiply(BigInteger.valueOf(31).pow(values.size()));
        DUE.holds("it is beyond a long", most.bitLength() > 64);
    }

    private static FallingRules greatest() {
        String full = nested(11, "a");
        FallingRules x = new FallingRules();
        reads(x, "a>" + full + ";f(a)>" + full + ";");
        reads(x, "a>" + full + ";f(b)>" + full + ";");
        reads(x, "f(x)>" + full + ";");
        term(x, nested(37, "a"));
        x.turns(30);
        return x;
    }

    /** The values of the digest, asked for in turn from objects of the same run, few enough from each. */
    private static List<Integer> valuesOf(Supplier<FallingRules> made) {
        FallingRules x = made.get();
        List<Integer> values = new ArrayList<>();
        for (int what = 0; what <= 6; what++) {
            values.add(x.told(what));
        }
        for (int r = 0; r < values.get(4); r++) {
            for (int what = 0; what <= 5; what++) {
                values.add(x.of(r, what));
            }
            values.add(x.weighs(1111111, r));
        }
        for (int k = 0; k < values.get(5); k++) {
            values.add(x.letter(k));
        }
        values.add(x.fall());
        for (int what = 0; what <= 2; what++) {
            values.add(x.calls(what));
        }
        int calls = x.calls(0);
        for (int c = 0; c < calls; c++) {
            x = c % 20 == 0 ? made.get() : x;
            for (int what = 0; what <= 3; what++) {
                values.add(x.call(c, what));
            }
        }
        values.add(x.settles());
        values.add(x.next(0));
        values.add(x.next(1));
        return values;
    }

    private static void digestOfTheGreatest() {
        about("Promise 23: RULE by RULE .. letters of THE TERM .. CALL by CALL");
        List<Integer> values = valuesOf(EdgesOfStatesTest::greatest);
        due("five RULES", values.get(4), 5);
        due("60 NODES", values.get(5), 60);
        due("all values", values.size(), 7 + 5 * 7 + 60 + 4 + 60 * 4 + 3);
        due("digest()", greatest().digest(), digestOf(values));
    }

    private static void digestChangesNothing() {
        about("Promise 23: digest");
        FallingRules x = with("f(f(x))>f(x);", "f(f(a))");
        long before = x.digest();
        due("digest() again", x.digest(), before);
        for (int what = 0; what <= 2; what++) {
            due("told(" + what + ")", x.told(what), 0);
        }
        due("told(6)", x.told(6), 2);
        FallingRules none = new FallingRules();
        none.digest();
        due("without RULES: told(0)", none.told(0), 0);
    }

    private static void digestIsOfEachPart() {
        about("Promise 23: told(0) to told(6); RULE by RULE ..; letters of THE TERM; ..");
        String[][] runs = {
            {"a>b;", "a"}, {"b>a;", "a"}, {"a>b;", "b"}, {"f(x)>x;", "f(f(b))"}, {"f(x)>a;", "f(f(b))"},
            {"g(x,y)>g(y,x);", "g(a,b)"}, {"f(a)>f(b);f(b)>f(a);a>f(a);", "g(x,y)"},
            {"a>f(a);", "g(a,a)"}, {"f(a)>g(f(a),f(b));f(b)>f(b);", "x"}, {"f(x)>g(x,x);", "f(f(f(a)))"},
        };
        for (String[] run : runs) {
            Supplier<FallingRules> made = () -> {
                FallingRules x = with(run[0], run[1]);
                x.type(-1);
                return x;
            };
            due(run[0] + " " + run[1], made.get().digest(), digestOf(valuesOf(made)));
        }
    }
}
