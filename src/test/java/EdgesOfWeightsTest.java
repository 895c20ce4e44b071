import java.math.BigInteger;

/**
 * WEIGHTS, FALL and what weighs more (promises 10 to 12): each sentence of the document that names an edge
 * has a test of its own.
 */
public final class EdgesOfWeightsTest extends Hand {
    private static final long PRIME = 1000000007L;
    /** a 1, b 2, f (t) 3 t, g (a, t) 3 t + 1, g (b, t) 3 t + 2: any number can be written so. */
    private static final int BY_THREES = 1200313;

    public static void main(String[] args) {
        fallWithoutRules();
        fallOfA();
        fallOfB();
        fallOfC();
        fallOfD();
        fallOfK();
        fallOfL();
        fallOfM();
        fallNeedsOneAtLeast();
        fallIsTheLeastNumber();
        fallIsByEachRule();
        fallIsNone();
        fallOfSidesThatWeighTheSame();
        fallBehindOtherQuestions();
        weighsByFiguresOfEachPlace();
        weighsByNoWeights();
        weighsOfNoRule();
        weighsWithZeroForUnknowns();
        weighsWhateverNumbersStand();
        weighsAsMuch();
        weighsGreatSides();
        weightByNoWeights();
        weightOfLeastTerms();
        weightOfUnknowns();
        weightAboutThePrime();
        weightOfGreatTerms();
        DUE.end();
    }

    private static void dueFall(String rules, int want) {
        due("fall() of " + rules, with(rules).fall(), want);
    }

    private static void fallWithoutRules() {
        about("FALL: WEIGHTS with A, B, C, D 0 .. 3, K, L, M 1 .. 3 .. the least as a number");
        FallingRules x = new FallingRules();
        due("without RULES", x.fall(), 111);
        reads(x, "a>a;");
        due("with one", x.fall(), NONE);
        x.drops(0);
        due("without any again", x.fall(), 111);
    }

    // In the next seven each RULE asks for one figure: three will do, four may not be.

    private static void fallOfA() {
        about("FALL: A 0 .. 3");
        dueFall("f(x)>x;a>f(f(b));", 3010111);
        dueFall("f(x)>x;a>f(f(f(b)));", NONE);
    }

    private static void fallOfB() {
        about("FALL: B 0 .. 3");
        dueFall("f(x)>x;b>f(f(a));", 310111);
        dueFall("f(x)>x;b>f(f(f(a)));", NONE);
    }

    private static void fallOfC() {
        about("FALL: C 0 .. 3");
        dueFall("b>a;f(x)>g(b,g(x,b));", 130111);
        dueFall("b>a;f(x)>g(b,g(b,g(x,b)));", NONE);
    }

    private static void fallOfD() {
        about("FALL: D 0 .. 3");
        dueFall("f(x)>x;g(x,y)>f(f(x));", 13111);
        dueFall("f(x)>x;g(x,y)>f(f(f(x)));", NONE);
    }

    private static void fallOfK() {
        about("FALL: K 1 .. 3");
        dueFall("f(x)>g(x,g(x,x));", 10311);
        dueFall("f(x)>g(x,g(x,g(x,x)));", NONE);
        // By K 0 these could be had: A 1, C 0.
        dueFall("a>f(a);", NONE);
    }

    private static void fallOfL() {
        about("FALL: L 1 .. 3");
        // K has to be 1, and so L C > C + M C.
        dueFall("g(f(x),y)>f(g(x,f(y)));", 10131);
        dueFall("g(f(x),y)>f(f(g(x,f(y))));", NONE);
        // By L 0 these could be had: B 1, M 1, A 0, D 0.
        dueFall("b>g(b,a);", NONE);
    }

    private static void fallOfM() {
        about("FALL: M 1 .. 3");
        dueFall("g(y,f(x))>f(g(f(y),x));", 10113);
        dueFall("g(y,f(x))>f(f(g(f(y),x)));", NONE);
        dueFall("b>g(a,b);", NONE);
    }

    private static void fallNeedsOneAtLeast() {
        about("FALL: K, L, M 1 .. 3");
        dueFall("b>a;", 100111);
        dueFall("a>b;", 1000111);
        dueFall("f(x)>a;", 10111);
        dueFall("g(x,y)>a;", 1111);
    }

    private static void fallIsTheLeastNumber() {
        about("FALL: .. the least as a number");
        // C 1, K 1 would do as well, but is the greater number.
        dueFall("b>a;f(b)>b;", 100211);
        dueFall("b>a;g(b,a)>b;", 100121);
        dueFall("b>a;g(a,b)>b;", 100112);
        // D 1 or C 1 would each do: D stands behind C.
        dueFall("g(f(x),y)>x;", 1111);
        // C 1 or B 1 would each do.
        dueFall("f(b)>a;", 10111);
        // A 1 would do as well.
        dueFall("g(a,b)>f(b);", 1111);
        // A 1, L 2 would do as well.
        dueFall("f(g(a,b))>f(g(b,a));", 100112);
    }

    private static void fallIsByEachRule() {
        about("FALL: .. by which LEFT of each RULE is HEAVIER than its RIGHT");
        dueFall("a>b;b>f(b);", NONE);
        dueFall("b>f(b);a>b;", NONE);
        dueFall("g(x,y)>x;f(x)>x;b>a;f(a)>b;g(a,a)>f(a);", 123111);
    }

    private static void fallIsNone() {
        about("Promise 10: NONE.");
        FallingRules x = with("a>b;b>a;");
        due("fall()", x.fall(), NONE);
        dueNoChange(x, "fall()", x::fall);
    }

    private static void fallOfSidesThatWeighTheSame() {
        about("One TERM is HEAVIER than another, if its WEIGHT is greater");
        dueFall("a>a;", NONE);
        dueFall("g(x,y)>g(x,y);", NONE);
        dueFall("g(x,y)>g(y,x);", NONE);
    }

    private static void fallBehindOtherQuestions() {
        about("FALL: .. of each RULE (what was asked before, and RULES that went, count for nothing)");
        FallingRules x = with("a>b;");
        x.weighs(1111111, 0);
        due("fall()", x.fall(), 1000111);
        x.calls(2);
        x.weighs(1111111, 0);
        x.drops(0);
        reads(x, "b>a;");
        due("fall() of the other way round", x.fall(), 100111);
        FallingRules y = with("a>f(a);");
        y.weighs(1111111, 0);
        y.lighter(0);
        y.drops(0);
        due("fall() without RULES", y.fall(), 111);
    }

    private static void weighsByFiguresOfEachPlace() {
        about("Promise 11: WEIGHTS told as a number (figures 0 .. 3 each)");
        FallingRules x = with("a>a;");
        for (int place = 1; place <= 1000000; place *= 10) {
            int one = place;
            for (int figure = 0; figure <= 3; figure++) {
                due("weighs(" + figure * place + ", 0)", x.weighs(figure * place, 0), 1);
            }
            for (int figure = 4; figure <= 9; figure++) {
                int wrong = figure;
                dueRefused(x, "weighs(" + wrong * one + ", 0)", () -> x.weighs(wrong * one, 0), BAD);
            }
        }
        due("weighs(3333333, 0)", x.weighs(3333333, 0), 1);
    }

    private static void weighsByNoWeights() {
        about("Promise 11: BAD. (WEIGHTS of seven figures)");
        FallingRules x = with("a>b;");
        int[] wrong = {-1, -1111111, -3333333, 3333334, 4000000, 10000000, 11111111, 10000000 + 1111111,
            1000000000, 2111111111, Integer.MIN_VALUE, Integer.MAX_VALUE};
        for (int weights : wrong) {
            dueRefused(x, "weighs(" + weights + ", 0)", () -> x.weighs(weights, 0), BAD);
        }
    }

    private static void weighsOfNoRule() {
        about("Promise 11: BAD. (a RULE)");
        FallingRules none = new FallingRules();
        dueRefused(none, "without RULES: weighs(1111111, 0)", () -> none.weighs(1111111, 0), BAD);
        FallingRules five = with("a>b;b>a;f(x)>x;g(x,y)>y;g(y,x)>a;");
        due("the last one", five.weighs(1111111, 4), 1);
        dueBadOutside(five, "weighs(1111111, ..)", 0, 4, r -> five.weighs(1111111, r));
        dueRefused(five, "both wrong, counted once", () -> five.weighs(4, 5), BAD);
    }

    private static void weighsWithZeroForUnknowns() {
        about("numbers 0, 1, .. standing for UNKNOWNS");
        FallingRules x = with("f(x)>x;f(x)>a;g(x,y)>x;");
        // 2 x is more than x for 1 and on, but not for 0.
        due("2 x and x", x.weighs(200, 0), 1);
        due("1 + x and x", x.weighs(10100, 0), 2);
        // 3 x is as much as 1 for 1 and on, but not for 0.
        due("3 x and 1", x.weighs(1000300, 1), 0);
        due("1 + 3 x and 1", x.weighs(1010300, 1), 1);
        due("2 + 3 x and 1", x.weighs(1020300, 1), 2);
        due("x + 3 y and x", x.weighs(13, 2), 1);
    }

    private static void weighsWhateverNumbersStand() {
        about("HEAVIER .. if its WEIGHT is greater whatever numbers stand for UNKNOWNS");
        FallingRules x = with("f(x)>g(x,x);g(x,y)>g(y,x);g(x,y)>f(x);");
        due("3 + x and 2 x", x.weighs(30111, 0), 0);
        due("3 + x and x", x.weighs(30110, 0), 2);
        due("3 and 0", x.weighs(30000, 0), 2);
        due("2 x + y and 2 y + x", x.weighs(21, 1), 0);
        due("3 + 2 x + y and 3 + 2 y + x", x.weighs(3021, 1), 0);
        due("3 and x", x.weighs(3100, 2), 0);
        due("3 + y and x", x.weighs(3101, 2), 0);
        due("3 + x and x", x.weighs(3110, 2), 2);
    }

    private static void weighsAsMuch() {
        about("AS HEAVY, if it is so much or greater, likewise");
        FallingRules x = with("a>b;f(x)>g(x,x);");
        due("1 and 0", x.weighs(1000000, 0), 2);
        due("1 and 1", x.weighs(1100000, 0), 1);
        due("1 and 2", x.weighs(1200000, 0), 0);
        due("3 and 3", x.weighs(3300000, 0), 1);
        due("all 0", x.weighs(0, 0), 1);
        due("1 + 2 x and 1 + 2 x", x.weighs(11211, 1), 1);
        due("1 + 3 x and 1 + 2 x", x.weighs(11311, 1), 1);
        due("1 + 2 x and 2 + 2 x", x.weighs(12211, 1), 0);
        due("2 + 2 x and 1 + 2 x", x.weighs(21211, 1), 2);
    }

    private static void weighsGreatSides() {
        about("12 NODES at most on each side; figures 0 .. 3 each");
        FallingRules row = with(nested(11, "a") + ">" + nested(10, "a") + ";");
        due("3 times eleven times", row.weighs(3030300, 0), 2);
        FallingRules even = with("f(f(f(f(g(f(f(f(f(x)))),x)))))>g(f(f(f(f(f(f(f(f(x)))))))),x);");
        // Both have x 3 ^ 9 times; the left one has it 3 ^ 5 times more, the right one 3 times.
        due("x ever so often", even.weighs(333, 0), 1);
        due("C 9760 times and 9840 times", even.weighs(10333, 0), 0);
        due("D 81 times and once", even.weighs(1333, 0), 2);
    }

    private static void weightByNoWeights() {
        about("Promise 12: BAD.");
        FallingRules x = withTerm("g(f(a),b)");
        int[] wrong = {-1, -1111111, 4, 40, 400, 4000, 40000, 400000, 4000000, 9, 9000000, 3333334, 10000000,
            10000000 + 1111111, Integer.MIN_VALUE, Integer.MAX_VALUE};
        for (int weights : wrong) {
            dueRefused(x, "weight(" + weights + ")", () -> x.weight(weights), BAD);
        }
        due("weight(0)", x.weight(0), 0);
        due("weight(3333333)", x.weight(3333333), 3 + 3 * (3 + 3 * 3) + 3 * 3);
    }

    private static void weightOfLeastTerms() {
        about("WEIGHT of a TERM by them .. of a A, of b B");
        for (int figure = 0; figure <= 3; figure++) {
            due("a", withTerm("a").weight(figure * 1000000), figure);
            due("a has no B", withTerm("a").weight(figure * 100000), 0);
            due("b", withTerm("b").weight(figure * 100000), figure);
            due("b has no A", withTerm("b").weight(figure * 1000000), 0);
            due("f (x) C", withTerm("f(x)").weight(figure * 10000), figure);
            due("f (x) has no D", withTerm("f(x)").weight(figure * 1000), 0);
            due("g (x, y) D", withTerm("g(x,y)").weight(figure * 1000), figure);
            due("g (x, y) has no C", withTerm("g(x,y)").weight(figure * 10000), 0);
            due("f (a) K times", withTerm("f(a)").weight(2000000 + figure * 100), 2 * figure);
            due("g (a, x) L times", withTerm("g(a,x)").weight(2000000 + figure * 10), 2 * figure);
            due("g (x, a) M times", withTerm("g(x,a)").weight(2000000 + figure), 2 * figure);
        }
    }

    private static void weightOfUnknowns() {
        about("Promise 12: 0 for x and y");
        due("x", withTerm("x").weight(3333333), 0);
        due("y", withTerm("y").weight(3333333), 0);
        due("g (x, y)", withTerm("g(x,y)").weight(3330333), 0);
        due("g (x, b)", withTerm("g(x,b)").weight(200023), 6);
    }

    /** The TERM whose WEIGHT by BY_THREES is that number. */
    private static String termWeighing(long number) {
        if (number == 1) {
            return "a";
        }
        if (number == 2) {
            return "b";
        }
        String rest = termWeighing(number / 3);
        long figure = number % 3;
        return figure == 0 ? "f(" + rest + ")" : "g(" + (figure == 1 ? "a" : "b") + "," + rest + ")";
    }

    private static void weightAboutThePrime() {
        about("Promise 12: by 1000000007 what is left over");
        long[] weights = {1, 2, 3, 1000, PRIME - 2, PRIME - 1, PRIME, PRIME + 1, PRIME + 2, 2147483647L,
            2147483648L, 2 * PRIME - 1, 2 * PRIME, 2 * PRIME + 1, 3 * PRIME, 4294967296L, 5000000000L};
        for (long weight : weights) {
            due("a TERM of " + weight, withTerm(termWeighing(weight)).weight(BY_THREES), weight % PRIME);
        }
    }

    private static void weightOfGreatTerms() {
        about("Promise 12: by 1000000007 what is left over");
        FallingRules x = with("a>f(a);", nested(38, "a"));
        due("turns(30)", x.turns(30), 21);
        BigInteger sum = BigInteger.valueOf(3);
        for (int n = 0; n < 59; n++) {
            sum = sum.multiply(BigInteger.valueOf(3)).add(BigInteger.valueOf(3));
        }
        due("60 NODES", x.weight(3030300), sum.mod(BigInteger.valueOf(PRIME)).longValue());
        due("60 NODES, K 0", x.weight(3030033), 3);
        due("60 NODES, K 1", x.weight(3010100), 62);
    }
}
