/**
 * CALLS, which MAY FOLLOW on which, RINGS and LIGHTER (promises 13 to 16): each sentence of the document
 * that names an edge has a test of its own.
 */
public final class EdgesOfCallsTest extends Hand {
    public static void main(String[] args) {
        withoutRules();
        callsOfNothingAsked();
        withoutCalls();
        itselfToo();
        fromTheLeft();
        ruleByRule();
        unknownsAreNoCalls();
        mostCalls();
        callOfNone();
        callOfNothingAsked();
        nodesOfThePart();
        howManyFollow();
        followsOfNone();
        followsInOneDirection();
        toAnUnknown();
        fromAnUnknown();
        fromAHead();
        firstLettersMustBeTheSame();
        allPartsMustCome();
        inNoRing();
        ringOfOne();
        ringByManySteps();
        ringsAsGreatAsCanBe();
        ringsRising();
        mostRings();
        sureWithoutRings();
        sureByEachRing();
        lighterOfNoRing();
        lighterOfA();
        lighterOfB();
        lighterOfC();
        lighterOfD();
        lighterOfK();
        lighterOfL();
        lighterOfM();
        lighterFromZero();
        lighterIsTheLeastNumber();
        rulesAsHeavy();
        rulesBesideTheRing();
        callsHeavier();
        callsOfThatRingAlone();
        lighterOfManyCalls();
        lighterIsNone();
        DUE.end();
    }

    private static void dueCalls(FallingRules x, int count, int rings, int sure) {
        due("calls(0)", x.calls(0), count);
        due("calls(1)", x.calls(1), rings);
        due("calls(2)", x.calls(2), sure);
    }

    private static void dueRings(String rules, int... ringOf) {
        FallingRules x = with(rules);
        due(rules + " calls(0)", x.calls(0), ringOf.length);
        for (int c = 0; c < ringOf.length; c++) {
            due(rules + " call(" + c + ", 2)", x.call(c, 2), ringOf[c]);
        }
    }

    private static void dueLighter(String rules, int want) {
        FallingRules x = with(rules);
        due(rules + " lighter(0)", x.lighter(0), want);
        due(rules + " calls(2)", x.calls(2), want == NONE ? 0 : 1);
    }

    private static void withoutRules() {
        about("Promise 13: How many CALLS (what 0), RINGS (1), whether it is SURE");
        FallingRules x = new FallingRules();
        dueCalls(x, 0, 0, 1);
        reads(x, "a>a;");
        dueCalls(x, 1, 1, 0);
        x.back();
        dueCalls(x, 0, 0, 1);
    }

    private static void callsOfNothingAsked() {
        about("Promise 13: BAD.");
        FallingRules none = new FallingRules();
        dueBadOutside(none, "calls", 0, 2, none::calls);
        FallingRules x = with("a>a;f(x)>f(a);");
        dueBadOutside(x, "calls", 0, 2, x::calls);
    }

    private static void withoutCalls() {
        about("CALLS: .. each part (itself, too) that begins with one of the HEADS");
        dueCalls(with("a>b;"), 0, 0, 1);
        dueCalls(with("f(g(a,b))>g(b,a);"), 0, 0, 1);
    }

    private static void itselfToo() {
        about("CALLS: .. of RIGHT each part (itself, too)");
        FallingRules x = with("a>a;");
        due("calls(0)", x.calls(0), 1);
        due("call(0, 1)", x.call(0, 1), 1);
        FallingRules y = with("f(x)>f(g(a,x));");
        due("calls(0)", y.calls(0), 1);
        due("call(0, 1)", y.call(0, 1), 4);
    }

    private static void fromTheLeft() {
        about("CALLS: .. as they stand from the left (by their first letter)");
        FallingRules x = with("g(x,y)>g(g(x,a),g(y,g(y,y)));");
        int[] nodes = {9, 3, 5, 3};
        due("calls(0)", x.calls(0), nodes.length);
        for (int c = 0; c < nodes.length; c++) {
            due("call(" + c + ", 1)", x.call(c, 1), nodes[c]);
        }
    }

    private static void ruleByRule() {
        about("CALLS: RULE by RULE");
        FallingRules x = with("a>b;f(x)>f(f(x));b>g(a,f(b));");
        int[] rules = {0, 1, 1, 2, 2, 2};
        due("calls(0)", x.calls(0), rules.length);
        for (int c = 0; c < rules.length; c++) {
            due("call(" + c + ", 0)", x.call(c, 0), rules[c]);
        }
        x.first(2);
        due("behind first(2): call(2, 0)", x.call(2, 0), 0);
        due("behind first(2): call(3, 0)", x.call(3, 0), 1);
    }

    private static void unknownsAreNoCalls() {
        about("HEADS: the letters (of a, b, f, g) with which LEFTS begin");
        due("all four are HEADS", with("a>b;b>a;f(x)>x;g(x,y)>g(x,f(y));").calls(0), 4);
        due("UNKNOWNS are none", with("f(x)>x;").calls(0), 0);
        due("letters within LEFT are none", with("f(g(a,b))>g(a,b);").calls(0), 0);
    }

    private static void mostCalls() {
        about("RULES 0 .. 4 .. 12 NODES at most on each side: 60 CALLS");
        String full = nested(11, "a");
        FallingRules x = with("a>" + full + ";f(a)>" + full + ";");
        reads(x, "a>" + full + ";f(b)>" + full + ";");
        reads(x, "f(x)>" + full + ";");
        due("calls(0)", x.calls(0), 60);
        due("call(59, 0)", x.call(59, 0), 4);
        due("call(59, 1)", x.call(59, 1), 1);
        due("call(48, 1)", x.call(48, 1), 12);
        due("follows(59, 0)", x.follows(59, 0), 1);
        due("follows(59, 59)", x.follows(59, 59), 0);
        due("follows(0, 59)", x.follows(0, 59), 1);
        due("call(59, 3): a >, twice", x.call(59, 3), 24);
        due("call(0, 3): all that begin with f", x.call(0, 3), 36);
        due("calls(1)", x.calls(1), 1);
        due("call(59, 2)", x.call(59, 2), 0);
        dueRefused(x, "call(60, 0)", () -> x.call(60, 0), BAD);
        dueRefused(x, "follows(0, 60)", () -> x.follows(0, 60), BAD);
        dueRefused(x, "follows(60, 0)", () -> x.follows(60, 0), BAD);
        due("of(4, 5)", x.of(4, 5), 12);
    }

    private static void callOfNone() {
        about("Promise 14: BAD. (CALL c)");
        FallingRules none = new FallingRules();
        dueRefused(none, "without RULES: call(0, 0)", () -> none.call(0, 0), BAD);
        FallingRules without = with("a>b;");
        dueRefused(without, "without CALLS: call(0, 0)", () -> without.call(0, 0), BAD);
        FallingRules two = with("f(f(x))>f(g(f(x),b));");
        dueBadOutside(two, "two CALLS: call(.., 0)", 0, 1, c -> two.call(c, 0));
        dueBadOutside(two, "two CALLS: call(.., 3)", 0, 1, c -> two.call(c, 3));
    }

    private static void callOfNothingAsked() {
        about("Promise 14: BAD. (what 0 .. 3)");
        FallingRules x = with("f(f(x))>f(g(f(x),b));");
        dueBadOutside(x, "call(0, ..)", 0, 3, what -> x.call(0, what));
        dueRefused(x, "both wrong, counted once", () -> x.call(2, 4), BAD);
    }

    private static void nodesOfThePart() {
        about("Promise 14: NODES of the part (1)");
        FallingRules x = with("f(a)>" + nested(11, "b") + ";");
        due("calls(0)", x.calls(0), 11);
        for (int c = 0; c < 11; c++) {
            due("call(" + c + ", 1)", x.call(c, 1), 12 - c);
        }
    }

    private static void howManyFollow() {
        about("Promise 14: CALLS that MAY FOLLOW on it (3, how many)");
        FallingRules x = with("f(a)>g(f(a),f(b));f(b)>g(b,f(a));");
        int[] many = {2, 1, 2};
        for (int c = 0; c < many.length; c++) {
            due("call(" + c + ", 3)", x.call(c, 3), many[c]);
        }
        due("none", with("f(a)>f(b);").call(0, 3), 0);
    }

    private static void followsOfNone() {
        about("Promise 15: BAD.");
        FallingRules none = new FallingRules();
        dueRefused(none, "without CALLS: follows(0, 0)", () -> none.follows(0, 0), BAD);
        FallingRules two = with("f(f(x))>f(g(f(x),b));");
        dueBadOutside(two, "follows(.., 0)", 0, 1, c -> two.follows(c, 0));
        dueBadOutside(two, "follows(1, ..)", 0, 1, d -> two.follows(1, d));
        dueRefused(two, "both wrong, counted once", () -> two.follows(2, -1), BAD);
    }

    private static void followsInOneDirection() {
        about("Promise 15: Whether CALL d MAY FOLLOW on CALL c: 1, 0.");
        FallingRules x = with("f(a)>f(b);f(b)>f(g(a,a));");
        due("follows(0, 1)", x.follows(0, 1), 1);
        due("follows(1, 0)", x.follows(1, 0), 0);
        due("follows(0, 0)", x.follows(0, 0), 0);
        due("follows(1, 1)", x.follows(1, 1), 0);
    }

    private static void dueFollowsItself(String rule, int want) {
        due(rule + " follows(0, 0)", with(rule).follows(0, 0), want);
    }

    private static void toAnUnknown() {
        about("A part s MAY COME to a LEFT t: if t is an UNKNOWN .. always");
        dueFollowsItself("f(x)>f(a);", 1);
        dueFollowsItself("f(x)>f(g(a,b));", 1);
        dueFollowsItself("f(g(x,a))>f(g(g(b,b),a));", 1);
        // The same UNKNOWN twice asks for no more.
        dueFollowsItself("g(x,x)>g(a,b);", 1);
    }

    private static void fromAnUnknown() {
        about("A part s MAY COME to a LEFT t: .. or s is one (an UNKNOWN)");
        dueFollowsItself("f(f(x))>f(x);", 1);
        dueFollowsItself("f(g(x,a))>f(g(x,x));", 1);
        dueFollowsItself("f(g(b,g(y,a)))>f(y);", 1);
    }

    private static void fromAHead() {
        about("A part s MAY COME to a LEFT t: .. or s begins with one of the HEADS, always");
        dueFollowsItself("f(a)>f(b);", 0);
        dueFollowsItself("f(a)>f(b);b>f(a);", 1);
        dueFollowsItself("f(a)>f(g(a,a));", 0);
        dueFollowsItself("f(a)>f(g(a,a));g(b,b)>b;", 1);
        dueFollowsItself("f(a)>f(f(b));", 1);
        // That t begins with one of the HEADS counts for nothing.
        dueFollowsItself("f(a)>f(b);a>f(a);", 0);
    }

    private static void firstLettersMustBeTheSame() {
        about("a CALL MAY FOLLOW on another one, if the part of that other one begins with the same letter");
        FallingRules x = with("a>b;b>a;");
        due("follows(0, 0)", x.follows(0, 0), 0);
        due("follows(0, 1)", x.follows(0, 1), 1);
        // Though a and f are HEADS, the letter itself has to be the same.
        FallingRules y = with("f(x)>a;a>f(a);");
        due("follows(0, 0)", y.follows(0, 0), 0);
        due("follows(0, 1)", y.follows(0, 1), 1);
    }

    private static void allPartsMustCome() {
        about("all parts of that (of what is behind the letter) MAY COME to those of this LEFT");
        dueFollowsItself("g(a,b)>g(a,b);", 1);
        dueFollowsItself("g(a,b)>g(b,b);", 0);
        dueFollowsItself("g(a,b)>g(a,a);", 0);
        dueFollowsItself("f(g(a,b))>f(g(a,b));", 1);
        dueFollowsItself("f(g(a,b))>f(g(b,b));", 0);
        dueFollowsItself("f(g(a,b))>f(g(a,a));", 0);
        dueFollowsItself("f(g(a,b))>f(a);", 0);
        dueFollowsItself("g(f(x),f(a))>g(f(b),f(b));", 0);
        dueFollowsItself("g(f(x),f(a))>g(f(f(b)),f(b));", 0);
        dueFollowsItself("g(f(x),f(a))>g(f(f(b)),f(a));", 1);
        // What is behind a part that comes anyhow is looked at, too.
        dueFollowsItself("g(g(x,a),b)>g(x,a);", 0);
        dueFollowsItself("g(x,f(b))>g(f(f(a)),f(a));", 0);
    }

    private static void inNoRing() {
        about("Promise 14: the number of its RING (2; NONE: in none)");
        dueRings("f(a)>f(b);", NONE);
        dueRings("f(a)>f(b);f(b)>f(g(a,a));", NONE, NONE);
        due("calls(1)", with("f(a)>f(b);").calls(1), 0);
    }

    private static void ringOfOne() {
        about("RINGS: .. got to from each one (itself, too) by one or more steps");
        dueRings("a>a;", 0);
        dueRings("f(f(x))>f(x);", 0);
        // On the way to a RING, and behind one: in none.
        dueRings("a>b;b>f(b);", NONE, 0);
        dueRings("f(a)>g(f(a),f(b));f(b)>g(f(g(a,a)),a);", 0, NONE, NONE);
    }

    private static void ringByManySteps() {
        about("RINGS: .. by one or more steps of MAY FOLLOW within the set");
        dueRings("f(a)>f(b);f(b)>f(a);", 0, 0);
        dueRings("f(a)>f(b);f(b)>f(g(a,a));f(g(a,a))>f(a);", 0, 0, 0);
        dueRings("f(a)>f(b);f(b)>f(g(a,a));f(g(a,a))>f(g(a,b));f(g(a,b))>f(g(b,a));f(g(b,a))>f(a);", 0, 0, 0, 0, 0);
        // The same five backward.
        dueRings("f(b)>f(a);f(g(a,a))>f(b);f(g(a,b))>f(g(a,a));f(g(b,a))>f(g(a,b));f(a)>f(g(b,a));", 0, 0, 0, 0, 0);
    }

    private static void ringsAsGreatAsCanBe() {
        about("RINGS: sets of CALLS, as great as can be");
        // Each of them follows on itself, and on the other.
        dueRings("f(x)>g(f(a),f(b));", 0, 0);
        // Two rings through one CALL are one.
        dueRings("f(a)>g(f(b),f(g(a,a)));f(b)>f(a);f(g(a,a))>f(a);", 0, 0, 0, 0);
        // One way alone makes no greater one.
        dueRings("f(a)>g(f(a),f(b));f(b)>f(b);", 0, NONE, 1);
    }

    private static void ringsRising() {
        about("RINGS: .. by their least CALLS, rising");
        FallingRules x = with("f(f(x))>f(x);b>b;");
        due("call(0, 2)", x.call(0, 2), 0);
        due("call(1, 2)", x.call(1, 2), 1);
        due("lighter(0)", x.lighter(0), 10100);
        due("lighter(1)", x.lighter(1), NONE);
        x.first(1);
        due("lighter(0) behind first(1)", x.lighter(0), NONE);
        due("lighter(1) behind first(1)", x.lighter(1), 10100);
        // CALLS 0 and 2 are one RING, CALL 1 between them another.
        dueRings("f(a)>f(b);g(x,y)>g(x,y);f(b)>f(a);", 0, 1, 0);
    }

    private static void mostRings() {
        about("Promise 16: BAD: there is no such RING.");
        String five = "f(a)>f(a);f(b)>f(b);f(g(a,a))>f(g(a,a));f(g(a,b))>f(g(a,b));f(g(b,a))>f(g(b,a));";
        dueRings(five, 0, 1, 2, 3, 4);
        FallingRules x = with(five);
        dueCalls(x, 5, 5, 0);
        due("lighter(4)", x.lighter(4), NONE);
        dueBadOutside(x, "lighter", 0, 4, x::lighter);
    }

    private static void sureWithoutRings() {
        about("SURE: whether each RING has such WEIGHTS (or there are none).");
        due("without RULES", new FallingRules().calls(2), 1);
        due("without CALLS", with("a>b;").calls(2), 1);
        due("without RINGS", with("f(a)>f(b);").calls(2), 1);
        // No WEIGHTS are asked for, though by none is LEFT HEAVIER.
        due("without RINGS, RULES that can't fall", with("f(x)>g(g(x,x),g(x,x));").calls(2), 1);
        // L and M have to be 1 at least, and so K 4: no WEIGHTS make LEFTS as much as AS HEAVY.
        FallingRules heavy = with("g(x,y)>x;g(x,y)>y;f(x)>g(g(x,x),g(x,x));");
        dueCalls(heavy, 3, 0, 1);
    }

    private static void sureByEachRing() {
        about("SURE: whether each RING has such WEIGHTS");
        due("one that has", with("f(f(x))>f(x);").calls(2), 1);
        due("one that has none", with("b>b;").calls(2), 0);
        due("the last has none", with("f(f(x))>f(x);b>b;").calls(2), 0);
        due("the first has none", with("b>b;f(f(x))>f(x);").calls(2), 0);
        FallingRules x = with("f(f(x))>f(x);g(f(x),y)>g(x,y);");
        dueCalls(x, 2, 2, 1);
        reads(x, "b>b;");
        due("one more that has none", x.calls(2), 0);
        x.drops(2);
        due("without it", x.calls(2), 1);
    }

    private static void lighterOfNoRing() {
        about("Promise 16: BAD: there is no such RING.");
        FallingRules none = new FallingRules();
        dueRefused(none, "without RULES: lighter(0)", () -> none.lighter(0), BAD);
        FallingRules without = with("f(a)>f(b);");
        dueRefused(without, "without RINGS: lighter(0)", () -> without.lighter(0), BAD);
        FallingRules one = with("f(f(x))>f(x);");
        dueBadOutside(one, "one RING: lighter", 0, 0, one::lighter);
    }

    // In the next seven a RULE asks for one figure: two will do, three may not be.

    private static void lighterOfA() {
        about("LIGHTER: WEIGHTS with A 0 .. 2");
        dueLighter("f(f(x))>f(x);a>f(f(b));", 2010100);
        dueLighter("f(f(x))>f(x);a>f(f(f(b)));", NONE);
    }

    private static void lighterOfB() {
        about("LIGHTER: WEIGHTS with B 0 .. 2");
        dueLighter("f(f(x))>f(x);b>f(f(a));", 210100);
        dueLighter("f(f(x))>f(x);b>f(f(f(a)));", NONE);
    }

    private static void lighterOfC() {
        about("LIGHTER: WEIGHTS with C 0 .. 2");
        // The RING asks for L and D: C is D + L D, or D + L D + L L D.
        dueLighter("g(g(x,y),y)>g(x,y);f(x)>g(g(x,x),x);", 21110);
        dueLighter("g(g(x,y),y)>g(x,y);f(x)>g(g(g(x,x),x),x);", NONE);
    }

    private static void lighterOfD() {
        about("LIGHTER: WEIGHTS with D 0 .. 2");
        dueLighter("f(f(x))>f(x);g(x,y)>f(f(x));", 12110);
        dueLighter("f(f(x))>f(x);g(x,y)>f(f(f(x)));", NONE);
    }

    private static void lighterOfK() {
        about("LIGHTER: WEIGHTS with K 0 .. 2");
        // L and M are 1 at least by two RULES: K is L + M, or L + M L + M M.
        dueLighter("f(f(x))>f(x);g(x,y)>x;g(x,y)>y;f(x)>g(x,x);", 10211);
        dueLighter("f(f(x))>f(x);g(x,y)>x;g(x,y)>y;f(x)>g(x,g(x,x));", NONE);
    }

    private static void lighterOfL() {
        about("LIGHTER: WEIGHTS with L 0 .. 2");
        dueLighter("g(f(x),y)>f(f(g(x,f(y))));", 10120);
        dueLighter("g(f(x),y)>f(f(f(g(x,f(y)))));", NONE);
    }

    private static void lighterOfM() {
        about("LIGHTER: WEIGHTS with M 0 .. 2");
        dueLighter("g(y,f(x))>f(f(g(f(y),x)));", 10102);
        dueLighter("g(y,f(x))>f(f(f(g(f(y),x))));", NONE);
    }

    private static void lighterFromZero() {
        about("LIGHTER: WEIGHTS with .. K, L, M 0 .. 2");
        // By L 1 and M 1 RIGHT would be twice f (x).
        dueLighter("f(f(x))>f(g(f(x),f(x)));", 10100);
        // The RING asks for D and L, or for D and M, alone.
        dueLighter("g(g(x,y),y)>g(x,y);", 1010);
        dueLighter("g(y,g(y,x))>g(y,x);", 1001);
    }

    private static void lighterIsTheLeastNumber() {
        about("LIGHTER: .. the least as a number");
        // C 1, K 1 would do as well where K 2 does with C 0.
        dueLighter("f(b)>b;b>f(f(a));", 100200);
        dueLighter("f(f(x))>f(x);", 10100);
        // C 1 in place of D 1 would do as well.
        dueLighter("g(g(f(x),y),y)>g(x,y);", 1110);
    }

    private static void rulesAsHeavy() {
        about("LIGHTER: .. by which LEFT of each RULE is AS HEAVY as its RIGHT");
        // The part is less, but RIGHT is as much as LEFT.
        dueLighter("f(f(x))>f(g(f(x),x));", 10100);
        dueLighter("f(f(x))>f(x);g(f(x),y)>f(g(x,y));g(x,y)>x;", 10110);
        // RIGHT is more than LEFT by any of those by which the part is less.
        dueLighter("f(f(x))>g(g(f(x),x),x);g(x,y)>f(f(x));", NONE);
    }

    private static void rulesBesideTheRing() {
        about("LIGHTER: .. LEFT of each RULE");
        dueLighter("f(f(x))>f(x);", 10100);
        dueLighter("f(f(x))>f(x);b>f(a);", 110100);
        dueLighter("b>f(a);f(f(x))>f(x);", 110100);
        dueLighter("f(f(x))>f(x);b>f(b);", NONE);
    }

    private static void callsHeavier() {
        about("LIGHTER: .. LEFT of each CALL of a RING is HEAVIER than its part");
        dueLighter("a>a;", NONE);
        dueLighter("g(x,y)>g(y,x);", NONE);
        // Two CALLS in the RING: one of them is just as heavy by what would be enough for the other.
        dueLighter("g(f(x),y)>g(x,y);", 10110);
        dueLighter("g(f(x),y)>g(x,y);g(x,f(y))>g(x,y);", 10111);
    }

    private static void callsOfThatRingAlone() {
        about("LIGHTER: .. LEFT of each CALL of a RING");
        FallingRules x = with("g(f(x),y)>g(x,y);f(f(x))>f(x);");
        due("lighter(0)", x.lighter(0), 10110);
        due("lighter(1)", x.lighter(1), 10100);
        // A CALL in no RING may be as heavy, or heavier.
        dueLighter("f(f(x))>f(x);b>f(a);a>b;", NONE);
        dueLighter("f(f(x))>f(x);a>b;", 10100);
    }

    private static void lighterOfManyCalls() {
        about("LIGHTER: .. LEFT of each CALL of a RING is HEAVIER than its part");
        FallingRules x = new FallingRules();
        types(x, nested(11, "x") + ">" + nested(10, "x") + ";");
        for (int n = 1; n <= 5; n++) {
            due("reads()", x.reads(), n);
            dueCalls(x, 10 * n, 1, 1);
            due(10 * n + " CALLS: lighter(0)", x.lighter(0), 10100);
        }
        x.drops(4);
        due("reads()", reads(x, "f(f(x))>f(f(x));"), 5);
        due("the last RULE's CALL is as heavy: lighter(0)", x.lighter(0), NONE);
    }

    private static void lighterIsNone() {
        about("Promise 16: NONE.");
        FallingRules x = with("a>a;");
        dueNoChange(x, "lighter(0)", () -> due("lighter(0)", x.lighter(0), NONE));
    }
}
