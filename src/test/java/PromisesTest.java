import java.math.BigInteger;

/** Each promise of the document in order: ordinary inputs, the edges it names, wrong inputs. */
public final class PromisesTest extends Hand {
    public static void main(String[] args) {
        promise1NewObject();
        promise2Type();
        promise3Clear();
        promise4Reads();
        promise4Faults();
        promise4SixthRule();
        promise5Term();
        promise6Drops();
        promise7First();
        promise8Of();
        promise9Shown();
        promise10Fall();
        promise11Weighs();
        promise12Weight();
        promise13Calls();
        promise14Call();
        promise15Follows();
        promise16Lighter();
        promise17Turns();
        promise18Settles();
        promise19Next();
        promise20Letter();
        promise21Back();
        promise22Told();
        promise23Digest();
        DUE.end();
    }

    private static void promise1NewObject() {
        FallingRules x = new FallingRules();
        long[] told = {0, 0, 0, 0, 0, 1, 0};
        for (int what = 0; what <= 6; what++) {
            due("new: told(" + what + ")", x.told(what), told[what]);
        }
        dueLetters("new", x, "a");
        due("new: clear()", x.clear(), 0);
        due("new: back()", x.back(), NO);
    }

    private static void promise2Type() {
        FallingRules x = new FallingRules();
        due("type(0)", x.type(0), 1);
        due("type(127)", x.type(127), 2);
        due("type(-1)", x.type(-1), BAD);
        due("type(128)", x.type(128), BAD);
        due("type(min)", x.type(Integer.MIN_VALUE), BAD);
        due("type(max)", x.type(Integer.MAX_VALUE), BAD);
        due("told(3) behind refusals", x.told(3), 2);
        for (int n = 3; n <= 120; n++) {
            due("type(32) no. " + n, x.type(32), n);
        }
        due("type(32) no. 121", x.type(32), FULL);
        due("BAD comes ahead of FULL", x.type(128), BAD);
        due("told(0)", x.told(0), 5);
        due("told(2)", x.told(2), 1);
        due("told(3)", x.told(3), 120);
        due("told(6): none left", x.told(6), 0);
    }

    private static void promise3Clear() {
        FallingRules x = new FallingRules();
        types(x, "a>b;");
        due("clear()", x.clear(), 4);
        due("clear() again", x.clear(), 0);
        due("told(3)", x.told(3), 0);
        due("reads() of an empty text", x.reads(), -10);
        due("told(6): none left", x.told(6), 0);
        due("type behind clear", x.type('a'), 1);
    }

    private static void promise4Reads() {
        FallingRules x = new FallingRules();
        due("reads()", reads(x, "a>b;"), 1);
        due("the text stays", x.told(3), 4);
        due("reads() again", x.reads(), 2);
        due("told(6)", x.told(6), 2);
        due("blanks anywhere", reads(x, "  f ( x )  > g ( x , f (x ) ) ; b>a;  "), 4);
        dueShown(x, "a>b", "a>b", "f(x)>g(x,f(x))", "b>a");
        due("12 nodes on each side", reads(nested(11, "x") + ">" + nested(11, "x") + ";"), 1);
        due("12 nodes, g", reads("g(g(a,b),g(g(x,y),g(a,f(x))))>a;"), 1);
        due("unknowns within left", reads("g(x,y)>y;"), 1);
    }

    private static void promise4Faults() {
        due("empty", reads(""), -10);
        due("blanks alone", reads("    "), -14);
        due("left x", reads("x>a;"), -10);
        due("left y behind blanks", reads("  y>a;"), -12);
        due("y not in left", reads("f(x)>g(x,y);"), -19);
        due("x not in left", reads("f(y)>x;"), -15);
        due("an unknown for a letter without one", reads("a>f(x);"), -14);
        due("13th node of left", reads(nested(12, "x") + ">x;"), -10 - 24);
        due("13th node of left behind blanks", reads("f(".repeat(12) + "  x"), -10 - 26);
        due("12 nodes, then the end", reads("f(".repeat(12)), -10 - 24);
        due("a 12th letter that wants more", reads("f(".repeat(11) + "g("), -10 - 24);
        due("13th node of right", reads("a>" + nested(12, "a") + ";"), -10 - 26);
        due("13 nodes by g", reads("g(g(a,a),g(g(a,a),g(a,g(a,a))))>a;"), -10 - 26);
        due("no such letter", reads("c>a;"), -10);
        due("a capital", reads("A>a;"), -10);
        due("no letter within", reads("f()>a;"), -12);
        due("f with two parts", reads("f(a,b)>a;"), -13);
        due("g with one part", reads("g(a)>a;"), -13);
        due("g with three parts", reads("g(a,b,a)>a;"), -15);
        due("a with parts", reads("a(b)>a;"), -11);
        due("f without parts", reads("f>a;"), -11);
        due("one bracket too many", reads("f(a))>a;"), -14);
        due("no >", reads("a;"), -11);
        due("two >", reads("a>b>a;"), -13);
        due("nothing behind >", reads("a>;"), -12);
        due("; first", reads(";"), -10);
        due("two ;", reads("a>b;;"), -14);
        due("a tab is no blank", reads("a\t>b;"), -11);
        due("byte 0", reads("a>b;\0"), -14);
        due("byte 127", reads("\u007fa>b;"), -10);
        String rule = "g(f(x),y)>f(g(x,y));";
        for (int n = 1; n < rule.length(); n++) {
            due("ends early behind " + n, reads(rule.substring(0, n)), -10 - n);
        }
        due("ends early with a blank", reads("a>b "), -14);
        due("ends early in a second rule", reads("a>b; b"), -16);

        FallingRules x = with("a>b;", "f(a)");
        due("a fault in a second rule", reads(x, "b>a;f(x)>y;"), -10 - 9);
        dueShown(x, "a>b");
        due("a fault leaves no state", x.told(6), 2);
        due("a fault leaves the text", x.told(3), 11);
        due("a fault is not counted", x.told(0) + x.told(1) + x.told(2), 0);
    }

    private static void promise4SixthRule() {
        FallingRules x = with("a>b;a>b;a>b;");
        due("three more", reads(x, "b>a;b>a; b>a;"), -10 - 9);
        due("still three", x.told(4), 3);
        due("two more", reads(x, "b>a;b>a;  "), 5);
        due("a sixth", reads(x, "b>a;"), -10);
        due("a sixth behind blanks", reads(x, "   b>a;"), -13);
        due("a sixth that is none", reads(x, " %"), -11);
        due("an empty text with five", reads(x, ""), -10);
        due("blanks with five", reads(x, "  "), -12);
        dueShown(x, "a>b", "a>b", "a>b", "b>a", "b>a");
    }

    private static void promise5Term() {
        FallingRules x = new FallingRules();
        due("term()", term(x, " g ( f(x) , y ) "), 4);
        dueLetters("term()", x, "gfxy");
        due("the text stays", x.told(3), 16);
        due("told(6)", x.told(6), 1);
        due("a lone unknown", term(x, "y"), 1);
        due("empty", term(x, ""), -10);
        due("blanks", term(x, "   "), -13);
        due("two terms", term(x, "a b"), -12);
        due("a rule", term(x, "a>b;"), -11);
        due("one bracket too many", term(x, "f(a))"), -14);
        due("no such letter", term(x, "f(z)"), -12);
        due("f with two parts", term(x, "f(a,b)"), -13);
        due("ends early", term(x, "g(a,f(b)"), -18);
        due("60 letters, then the end", term(x, "f(".repeat(60)), -130);
        due("40 nodes", term(x, nested(39, "b")), 40);
        due("faults leave no states", x.told(6), 3);
        due("faults are not counted", x.told(0) + x.told(1) + x.told(2), 0);
        due("23 g", term(x, "g(a,".repeat(23) + "x" + ")".repeat(23)), 47);
    }

    private static void promise6Drops() {
        FallingRules x = with("a>b;b>a;f(x)>x;");
        due("drops(3)", x.drops(3), BAD);
        due("drops(-1)", x.drops(-1), BAD);
        due("refused leaves no state", x.told(6), 1);
        due("drops(1)", x.drops(1), 2);
        dueShown(x, "a>b", "f(x)>x");
        due("drops leaves a state", x.told(6), 2);
        due("drops(1) again", x.drops(1), 1);
        due("reads behind a drop", reads(x, "b>b;"), 2);
        dueShown(x, "a>b", "b>b");
        due("drops(0)", x.drops(0), 1);
        due("drops(0) again", x.drops(0), 0);
        due("drops(0) without rules", x.drops(0), BAD);
        due("told(0)", x.told(0), 3);
        due("back()", x.back(), 4);
        due("back()", x.back(), 3);
        dueShown(x, "a>b", "b>b");
        due("back()", x.back(), 2);
        due("back()", x.back(), 1);
        dueShown(x, "a>b", "f(x)>x");
    }

    private static void promise7First() {
        FallingRules x = with("a>b;b>a;f(x)>x;g(x,y)>y;");
        due("first(4)", x.first(4), BAD);
        due("first(-1)", x.first(-1), BAD);
        due("first(2)", x.first(2), 2);
        dueShown(x, "f(x)>x", "a>b", "b>a", "g(x,y)>y");
        due("first(0)", x.first(0), 0);
        dueShown(x, "f(x)>x", "a>b", "b>a", "g(x,y)>y");
        due("a state also if nothing changes", x.told(6), 3);
        due("first(3)", x.first(3), 3);
        dueShown(x, "g(x,y)>y", "f(x)>x", "a>b", "b>a");
        due("back()", x.back(), 3);
        due("back()", x.back(), 2);
        due("back()", x.back(), 1);
        dueShown(x, "a>b", "b>a", "f(x)>x", "g(x,y)>y");
    }

    private static void promise8Of() {
        FallingRules x = with("g(x,f(y))>f(g(x,x));a>g(b,g(a,f(b)));f(f(y))>b;");
        long[][] want = {{4, 4, 'g', 3, 1, 2}, {1, 6, 'a', 0, 0, 4}, {3, 1, 'f', 2, 0, 0}};
        for (int r = 0; r < 3; r++) {
            for (int what = 0; what <= 5; what++) {
                due("of(" + r + ", " + what + ")", x.of(r, what), want[r][what]);
            }
        }
        due("of(0, 6)", x.of(0, 6), BAD);
        due("of(0, -1)", x.of(0, -1), BAD);
        due("of(3, 0)", x.of(3, 0), BAD);
        due("of(-1, 0)", x.of(-1, 0), BAD);
        due("told(0)", x.told(0), 4);
        x.drops(2);
        due("f is no head any more", x.of(1, 5), 3);
        due("f is no head any more", x.of(0, 5), 1);
    }

    private static void promise9Shown() {
        FallingRules x = with(" g ( f ( x ) , g(a , y) ) > f(g(g(x,b),f(y)));");
        String want = "g(f(x),g(a,y))>f(g(g(x,b),f(y)))";
        dueShown(x, want);
        due("shown(0, NONE)", x.shown(0, NONE), want.length());
        due("shown(0, last)", x.shown(0, want.length() - 1), ')');
        due("shown(0, length)", x.shown(0, want.length()), FEWER);
        due("shown(0, max)", x.shown(0, Integer.MAX_VALUE), FEWER);
        due("shown(0, -2)", x.shown(0, -2), BAD);
        due("shown(1, 0)", x.shown(1, 0), BAD);
        due("shown(-1, 0)", x.shown(-1, 0), BAD);
        due("shown(1, NONE)", x.shown(1, NONE), BAD);
        due("told(0)", x.told(0), 4);
        String longest = nested(11, "x") + ">" + nested(11, "x");
        dueShown(with(longest + ";"), longest);
        String wide = "g(g(g(a,b),g(x,y)),f(g(b,a)))>g(g(a,a),g(a,f(g(a,g(b,b)))))";
        dueShown(with(wide + ";"), wide);
    }

    private static void promise10Fall() {
        due("no rules", new FallingRules().fall(), 111);
        due("a>b", with("a>b;").fall(), 1000111);
        due("b>a", with("b>a;").fall(), 100111);
        due("f(x)>x", with("f(x)>x;").fall(), 10111);
        due("g(x,y)>f(x)", with("g(x,y)>f(x);").fall(), 1111);
        due("f(x)>g(x,x)", with("f(x)>g(x,x);").fall(), 10211);
        due("g(f(x),y)>g(x,f(y))", with("g(f(x),y)>g(x,f(y));").fall(), 10121);
        due("g(x,f(y))>g(f(x),y)", with("g(x,f(y))>g(f(x),y);").fall(), 10112);
        due("A 3", with("f(x)>x;a>f(f(b));").fall(), 3010111);
        due("A would be 4", with("f(x)>x;a>f(f(f(b)));").fall(), NONE);
        due("K 3", with("f(x)>g(x,g(x,x));").fall(), 10311);
        due("K would be 4", with("f(x)>g(g(x,x),g(x,x));").fall(), NONE);
        due("K 2 for four", with("f(f(x))>g(g(x,x),g(x,x));").fall(), 10211);
        due("the same on both sides", with("a>a;").fall(), NONE);
        due("rules against each other", with("a>b;b>a;").fall(), NONE);
        FallingRules x = with("a>b;");
        x.fall();
        x.first(0);
        reads(x, "f(x)>x;");
        due("fall() behind one more rule", x.fall(), 1010111);
        x.drops(0);
        due("fall() behind a drop", x.fall(), 10111);
        x.back();
        due("fall() behind back()", x.fall(), 1010111);
        due("told(6): a question leaves none", x.told(6), 3);
    }

    private static void promise11Weighs() {
        FallingRules x = with("f(x)>g(x,x);g(f(a),y)>f(g(y,b));a>b;");
        due("weighs(0010211, 0)", x.weighs(10211, 0), 2);
        due("weighs(0000211, 0)", x.weighs(211, 0), 1);
        due("weighs(0001211, 0)", x.weighs(1211, 0), 0);
        due("weighs(0010111, 0): x weighs more on the right", x.weighs(10111, 0), 0);
        due("weighs(3333333, 0)", x.weighs(3333333, 0), 0);
        due("weighs(0, 0)", x.weighs(0, 0), 1);
        due("weighs(0010000, 0)", x.weighs(10000, 0), 2);
        // g (f (a), y) is D + L C + L K A and M y, f (g (y, b)) is C + K D + K M B and K L y.
        due("weighs(1012132, 1)", x.weighs(1012132, 1), 0);
        due("weighs(1012123, 1)", x.weighs(1012123, 1), 2);
        due("weighs(1112123, 1)", x.weighs(1112123, 1), 1);
        due("weighs(1212123, 1)", x.weighs(1212123, 1), 0);
        due("weighs(1000000, 2)", x.weighs(1000000, 2), 2);
        due("weighs(1100000, 2)", x.weighs(1100000, 2), 1);
        due("weighs(1200000, 2)", x.weighs(1200000, 2), 0);
        int[] wrong = {-1, 4, 40, 400, 4000, 40000, 400000, 4000000, 3333334, 10000000, 11111111,
            Integer.MAX_VALUE, Integer.MIN_VALUE};
        for (int weights : wrong) {
            due("weighs(" + weights + ", 0)", x.weighs(weights, 0), BAD);
        }
        due("weighs(0, 3)", x.weighs(0, 3), BAD);
        due("weighs(0, -1)", x.weighs(0, -1), BAD);
        due("weighs(4, 3) counts once", x.weighs(4, 3), BAD);
        due("told(0)", x.told(0), wrong.length + 3);
    }

    private static void promise12Weight() {
        FallingRules x = new FallingRules();
        due("weight(3000000)", x.weight(3000000), 3);
        term(x, "g(f(a),b)");
        due("weight(1230321)", x.weight(1230321), 14);
        due("weight(1233321)", x.weight(1233321), 17);
        due("weight(1230312)", x.weight(1230312), 10);
        term(x, "g(x,f(y))");
        due("x and y are 0", x.weight(3321321), 1 + 2);
        term(x, nested(39, "a"));
        BigInteger power = BigInteger.valueOf(3).pow(39);
        BigInteger all = power.multiply(BigInteger.TWO)
            .add(power.subtract(BigInteger.ONE).divide(BigInteger.TWO).multiply(BigInteger.valueOf(3)));
        due("what is left over", x.weight(2030300), all.mod(BigInteger.valueOf(1000000007L)).intValue());
        int[] wrong = {-1, 4, 40, 400, 4000, 40000, 400000, 4000000, 10000000, Integer.MAX_VALUE, Integer.MIN_VALUE};
        for (int weights : wrong) {
            due("weight(" + weights + ")", x.weight(weights), BAD);
        }
        due("told(0)", x.told(0), wrong.length);
    }

    private static void promise13Calls() {
        FallingRules x = new FallingRules();
        due("no rules: calls(0)", x.calls(0), 0);
        due("no rules: calls(1)", x.calls(1), 0);
        due("no rules: calls(2)", x.calls(2), 1);
        due("calls(3)", x.calls(3), BAD);
        due("calls(-1)", x.calls(-1), BAD);
        due("told(0)", x.told(0), 2);
        dueCalls("a>b;", 0, 0, 1);
        dueCalls("f(f(x))>f(g(f(x),b));", 2, 1, 1);
        dueCalls("f(a)>f(b);", 1, 0, 1);
        dueCalls("f(a)>f(b);b>a;", 2, 1, 0);
        dueCalls("f(f(x))>f(x);g(f(x),y)>g(x,y);", 2, 2, 1);
        dueCalls("a>f(a);b>f(b);", 2, 2, 0);
        dueCalls("a>b;b>a;", 2, 1, 0);
        dueCalls("a>b;b>f(b);", 2, 1, 0);
        String full = nested(11, "a");
        FallingRules all = with("a>" + full + ";f(a)>" + full + ";");
        reads(all, "a>" + full + ";f(b)>" + full + ";");
        reads(all, "f(x)>" + full + ";");
        due("60 calls", all.calls(0), 60);
        due("60 calls: the last one", all.call(59, 0), 4);
        due("60 calls: the last one's part", all.call(59, 1), 1);
        due("60 calls: no more", all.call(60, 0), BAD);
    }

    private static void dueCalls(String rules, int count, int rings, int sure) {
        FallingRules x = with(rules);
        due(rules + " calls(2)", x.calls(2), sure);
        due(rules + " calls(1)", x.calls(1), rings);
        due(rules + " calls(0)", x.calls(0), count);
    }

    private static void promise14Call() {
        FallingRules x = with("f(f(x))>f(g(f(x),b));");
        long[][] want = {{0, 5, NONE, 0}, {0, 2, 0, 2}};
        dueCall(x, want);
        due("call(2, 0)", x.call(2, 0), BAD);
        due("call(-1, 0)", x.call(-1, 0), BAD);
        due("call(0, 4)", x.call(0, 4), BAD);
        due("call(0, -1)", x.call(0, -1), BAD);
        due("told(0)", x.told(0), 4);
        due("no calls", new FallingRules().call(0, 0), BAD);
        // RINGS are numbered by their least CALLS; the first CALL here is in none.
        FallingRules y = with("g(x,y)>f(a);f(f(x))>f(x);b>b;");
        dueCall(y, new long[][] {{0, 2, NONE, 0}, {1, 2, 0, 1}, {2, 1, 1, 1}});
        y.first(2);
        dueCall(y, new long[][] {{0, 1, 0, 1}, {1, 2, NONE, 0}, {2, 2, 1, 1}});
        // A ring of two, got to only by way of each other.
        dueCall(with("a>b;b>a;"), new long[][] {{0, 1, 0, 1}, {1, 1, 0, 1}});
        // A call on the way to a ring is not in it.
        dueCall(with("a>b;b>f(b);"), new long[][] {{0, 1, NONE, 1}, {1, 1, 0, 1}});
    }

    private static void dueCall(FallingRules x, long[][] want) {
        due("calls(0)", x.calls(0), want.length);
        for (int c = 0; c < want.length; c++) {
            for (int what = 0; what <= 3; what++) {
                due("call(" + c + ", " + what + ")", x.call(c, what), want[c][what]);
            }
        }
    }

    private static void promise15Follows() {
        FallingRules x = with("f(f(x))>f(g(f(x),b));");
        due("follows(0, 0)", x.follows(0, 0), 0);
        due("follows(0, 1)", x.follows(0, 1), 0);
        due("follows(1, 0)", x.follows(1, 0), 1);
        due("follows(1, 1)", x.follows(1, 1), 1);
        due("follows(2, 0)", x.follows(2, 0), BAD);
        due("follows(0, 2)", x.follows(0, 2), BAD);
        due("follows(-1, 0)", x.follows(-1, 0), BAD);
        due("follows(0, -1)", x.follows(0, -1), BAD);
        due("told(0)", x.told(0), 4);
        due("a does not come to b", with("f(b)>f(a);").follows(0, 0), 0);
        due("a comes to b as a head", with("f(b)>f(a);a>b;").follows(0, 0), 1);
        due("an unknown comes to b", with("f(b)>b;g(x,b)>f(x);f(b)>f(a);").follows(0, 1), 1);
        due("parts of parts differ", with("f(g(a,x))>f(g(b,x));").follows(0, 0), 0);
        due("parts of parts come", with("f(g(a,x))>f(g(a,b));").follows(0, 0), 1);
        due("the second part differs", with("f(g(x,a))>f(g(x,b));").follows(0, 0), 0);
        due("other letters", with("f(g(x,a))>f(a);").follows(0, 0), 0);
        due("the same unknown twice counts for nothing", with("g(x,x)>g(a,b);").follows(0, 0), 1);
        due("the head of the part itself does not count", with("g(a,x)>g(b,x);").follows(0, 0), 0);
    }

    private static void promise16Lighter() {
        FallingRules x = with("f(f(x))>f(x);g(f(x),y)>g(x,y);");
        due("lighter(0)", x.lighter(0), 10100);
        due("lighter(1)", x.lighter(1), 10110);
        due("lighter(2)", x.lighter(2), BAD);
        due("lighter(-1)", x.lighter(-1), BAD);
        due("told(0)", x.told(0), 2);
        due("no rings", with("a>b;").lighter(0), BAD);
        due("K 0 and L 0", with("f(f(x))>f(g(f(x),b));").lighter(0), 10100);
        due("none", with("f(a)>f(b);b>a;").lighter(0), NONE);
        // Every RULE counts, not those of the RING alone: the second one asks for B > 0 where C > 0.
        due("a rule beside the ring", with("f(f(x))>f(x);b>g(f(a),a);").lighter(0), 10100);
        due("a rule beside the ring", with("f(f(x))>f(x);g(x,y)>x;b>g(f(a),a);").lighter(0), 110110);
        // AS HEAVY is enough for RULES: here both sides weigh the same.
        due("as heavy", with("g(f(x),y)>g(x,f(y));").lighter(0), 10110);
        FallingRules y = with("a>a;");
        due("lighter before", y.lighter(0), NONE);
        reads(y, "f(f(x))>f(x);");
        y.first(1);
        due("lighter behind first()", y.lighter(0), 10100);
        due("lighter behind first()", y.lighter(1), NONE);
        y.back();
        due("lighter behind back()", y.lighter(0), NONE);
    }

    private static void promise17Turns() {
        FallingRules x = with("g(a,y)>y;g(f(x),y)>f(g(x,y));", "g(f(f(a)),b)");
        due("turns(-1)", x.turns(-1), BAD);
        due("turns(31)", x.turns(31), BAD);
        due("refused leaves no state", x.told(6), 2);
        due("turns(0)", x.turns(0), 0);
        due("turns(0) leaves a state", x.told(6), 3);
        due("turns(2)", x.turns(2), 2);
        dueLetters("turns(2)", x, "ffgab");
        due("turns(30)", x.turns(30), 1);
        dueLetters("turns(30)", x, "ffb");
        due("turns(30) with none", x.turns(30), 0);
        due("told(6)", x.told(6), 5);

        FallingRules innermost = with("a>b;f(x)>x;", "g(f(a),a)");
        innermost.turns(1);
        dueLetters("innermost first", innermost, "gfba");
        innermost.turns(1);
        dueLetters("then the left one", innermost, "gba");
        innermost.turns(1);
        dueLetters("then the right one", innermost, "gbb");

        FallingRules least = with("f(x)>a;f(b)>b;", "f(b)");
        least.turns(1);
        dueLetters("the least rule", least, "a");
        FallingRules swapped = with("g(x,y)>g(g(y,x),y);", "g(f(a),b)");
        swapped.turns(1);
        dueLetters("terms for unknowns", swapped, "ggbfab");

        due("not the same for x", with("g(x,x)>a;", "g(f(a),f(b))").turns(1), 0);
        FallingRules same = with("g(x,x)>x;", "g(f(y),f(y))");
        due("the same for x", same.turns(1), 1);
        dueLetters("the same for x", same, "fy");
        due("x in the term is no unknown", with("f(a)>b;", "f(x)").turns(1), 0);
        due("x and y in the term differ", with("g(x,x)>b;", "g(x,y)").turns(1), 0);

        FallingRules grows = with("a>f(a);", nested(38, "a"));
        due("up to 60 nodes", grows.turns(30), 21);
        due("60 nodes", grows.told(5), 60);
        due("not 61", grows.turns(30), 0);
        due("next is told all the same", grows.next(1), 59);
        FallingRules twice = with("f(x)>g(x,x);", "f(f(f(f(f(a)))))");
        due("not beyond 60", twice.turns(30), 4);
        due("f and twice 15 and one", twice.told(5), 32);
        due("no room", twice.turns(30), 0);
        due("thirty at most", with("a>b;b>a;").turns(30), 30);
    }

    private static void promise18Settles() {
        due("no rules", new FallingRules().settles(), 0);
        FallingRules x = with("f(f(x))>f(x);", nested(31, "a"));
        due("30 turns", x.settles(), 30);
        dueLetters("nothing is changed", x, "f".repeat(31) + "a");
        due("nothing is changed", x.told(6), 2);
        term(x, nested(32, "a"));
        due("31 turns", x.settles(), NONE);
        x.turns(30);
        due("one more", x.settles(), 1);
        due("goes on for ever", with("a>b;b>a;").settles(), NONE);
        due("the innermost goes on for ever", with("a>f(a);f(x)>b;").settles(), NONE);
        String twelve = "b>" + nested(11, "a") + ";";
        due("comes to 60 nodes", with(twelve, "g(b," + nested(35, "b") + ")").settles(), 2);
        FallingRules great = with(twelve, "g(b," + nested(36, "b") + ")");
        due("would come to 61 nodes", great.settles(), NONE);
        due("one is done", great.turns(30), 1);
    }

    private static void promise19Next() {
        FallingRules x = with("g(a,y)>y;f(b)>b;", "g(f(x),g(a,f(b)))");
        due("next(0)", x.next(0), 1);
        due("next(1)", x.next(1), 5);
        x.turns(1);
        due("next(0)", x.next(0), 0);
        due("next(1)", x.next(1), 3);
        x.turns(1);
        due("next(0) with none", x.next(0), NONE);
        due("next(1) with none", x.next(1), NONE);
        due("next(2)", x.next(2), BAD);
        due("next(-1)", x.next(-1), BAD);
        due("told(0)", x.told(0), 2);
        due("the least of two", with("b>a;f(x)>b;f(a)>a;", "f(a)").next(0), 1);
    }

    private static void promise20Letter() {
        FallingRules x = new FallingRules();
        term(x, "g(f(x),g(b,y))");
        dueLetters("letters", x, "gfxgby");
        due("letter(NONE)", x.letter(NONE), 6);
        due("letter(5)", x.letter(5), 'y');
        due("letter(6)", x.letter(6), FEWER);
        due("letter(max)", x.letter(Integer.MAX_VALUE), FEWER);
        due("letter(-2)", x.letter(-2), BAD);
        due("letter(min)", x.letter(Integer.MIN_VALUE), BAD);
        due("told(0)", x.told(0), 2);
    }

    private static void promise21Back() {
        FallingRules x = new FallingRules();
        due("none", x.back(), NO);
        due("told(1)", x.told(1), 1);
        reads(x, "a>b;");
        term(x, "f(a)");
        x.turns(1);
        x.first(0);
        x.drops(0);
        due("five", x.told(6), 5);
        x.turns(0);
        due("five at most", x.told(6), 5);
        x.clear();
        long[] rules = {0, 1, 1, 1, 1};
        String[] letters = {"fb", "fb", "fb", "fa", "a"};
        for (int i = 0; i < 5; i++) {
            due("back() no. " + i, x.back(), 4 - i);
            due("rules behind back() no. " + i, x.told(4), rules[i]);
            dueLetters("back() no. " + i, x, letters[i]);
        }
        due("the oldest is lost", x.back(), NO);
        due("told(1)", x.told(1), 2);
        due("the text does not come back", x.told(3), 0);
        dueShown(x, "a>b");
        due("told(6)", x.told(6), 0);
        reads(x, "b>a;");
        due("back() again", x.back(), 0);
    }

    private static void promise22Told() {
        FallingRules x = with("a>b;b>a;", "g(a,b)");
        x.type(128);
        x.type(-1);
        x.back();
        x.back();
        x.back();
        for (int n = 0; n < 120; n++) {
            x.type(' ');
        }
        reads(x, "a>b;");
        due("told(0)", x.told(0), 2);
        due("told(1)", x.told(1), 1);
        due("told(2)", x.told(2), 6);
        due("told(3)", x.told(3), 4);
        due("told(4)", x.told(4), 1);
        due("told(5)", x.told(5), 1);
        due("told(6)", x.told(6), 1);
        due("told(7)", x.told(7), BAD);
        due("told(-1)", x.told(-1), BAD);
        due("told(0) counts these", x.told(0), 4);
    }

    private static long digestOf(long... values) {
        long h = 2609;
        for (long v : values) {
            h = 31 * h + v;
        }
        return h;
    }

    private static void promise23Digest() {
        due("new", new FallingRules().digest(),
            digestOf(0, 0, 0, 0, 0, 1, 0, 'a', 111, 0, 0, 1, 0, NONE, NONE));
        FallingRules x = with("f(f(x))>f(g(f(x),b));", "f(f(a))");
        x.type(128);
        long due = digestOf(1, 0, 0, 7, 1, 3, 2,
            3, 5, 'f', 1, 1, 2, 0,
            'f', 'f', 'a', NONE, 2, 1, 1,
            0, 5, NONE, 0, 0, 2, 0, 2,
            1, 0, 0);
        due("a rule", x.digest(), due);
        due("again", x.digest(), due);
        due("told(0) stays", x.told(0), 1);
        due("told(6) stays", x.told(6), 2);
    }
}
