/**
 * TURNS of THE TERM, the next one, and letters (promises 17 to 20): each sentence of the document that
 * names an edge has a test of its own.
 */
public final class EdgesOfTurnsTest extends Hand {
    private static final String ROUND = "a>b;b>a;";
    /** One NODE becomes 12. */
    private static final String TWELVE = "b>" + "f(".repeat(11) + "a" + ")".repeat(11) + ";";

    public static void main(String[] args) {
        turnsOutside();
        turnsOfNone();
        turnsAsManyAsAreTold();
        turnsAsLongAsThereIsOne();
        turnsWithoutRules();
        sixtyNodesBehindIt();
        noMoreThanSixty();
        oneThatMakesLessAtSixty();
        noPartWithinThem();
        theFirstFromTheLeft();
        theLeastRule();
        theSameForTheSame();
        unknownsOfTheTerm();
        termsInPlaceOfUnknowns();
        settlesInNone();
        settlesInThirty();
        settlesWithinSixtyNodes();
        settlesChangesNothing();
        nextOfNothingAsked();
        nextOfNone();
        nextAtTheEnds();
        nextBeyondSixty();
        letterBelowNone();
        letterHowMany();
        letterNotSoMany();
        lettersOfSixty();
        DUE.end();
    }

    private static void dueTurned(String rules, String term, int turns, String want) {
        FallingRules x = with(rules, term);
        due(rules + " " + term + " turns(" + turns + ")", x.turns(turns), turns);
        dueLetters(rules + " " + term, x, want);
    }

    private static void turnsOutside() {
        about("Promise 17: BAD. (n 0 .. 30)");
        FallingRules x = with(ROUND, "g(a,b)");
        dueBadOutside(x, "turns", 0, 30, x::turns);
        dueLetters("THE TERM is as it was", x, "gab");
        due("STATES are as they were: back()", x.back(), 1);
    }

    private static void turnsOfNone() {
        about("Promise 17: TURNS (n at most, 0 .. 30)");
        FallingRules x = with(ROUND);
        due("turns(0)", x.turns(0), 0);
        dueLetters("turns(0)", x, "a");
        due("S: told(6)", x.told(6), 2);
    }

    private static void turnsAsManyAsAreTold() {
        about("TURNS are done in it, .. no more than are told");
        for (int n = 0; n <= 30; n++) {
            FallingRules x = with(ROUND);
            due("turns(" + n + ")", x.turns(n), n);
            dueLetters("turns(" + n + ")", x, n % 2 == 0 ? "a" : "b");
        }
    }

    private static void turnsAsLongAsThereIsOne() {
        about("TURNS are done in it, as long as there is one");
        FallingRules x = with("f(x)>x;", "f(f(f(b)))");
        due("turns(30)", x.turns(30), 3);
        dueLetters("turns(30)", x, "b");
        due("turns(30) with none left", x.turns(30), 0);
        due("just so many as there are", with("f(x)>x;", "f(f(f(b)))").turns(3), 3);
        due("one fewer", with("f(x)>x;", "f(f(f(b)))").turns(2), 2);
    }

    private static void turnsWithoutRules() {
        about("Promise 17: TURNS are done in THE TERM: how many.");
        FallingRules x = new FallingRules();
        due("turns(30)", x.turns(30), 0);
        due("settles()", x.settles(), 0);
        due("next(0)", x.next(0), NONE);
        dueLetters("turns(30)", x, "a");
    }

    private static void sixtyNodesBehindIt() {
        about("TURNS are done .. it has 60 NODES at most behind it");
        FallingRules byOne = with("a>f(a);", nested(38, "a"));
        due("one more by each: turns(30)", byOne.turns(30), 21);
        due("told(5)", byOne.told(5), 60);
        dueLetters("60 letters", byOne, "f".repeat(59) + "a");
        FallingRules byEleven = with(TWELVE, "g(b," + nested(35, "b") + ")");
        due("38 and twice eleven: turns(30)", byEleven.turns(30), 2);
        due("told(5)", byEleven.told(5), 60);
        FallingRules doubled = with("f(x)>g(x,x);", "f(" + "g(a,".repeat(14) + "b" + ")".repeat(15));
        due("1 and twice 29: turns(30)", doubled.turns(30), 1);
        due("told(5)", doubled.told(5), 59);
    }

    private static void noMoreThanSixty() {
        about("TURNS are done .. it has 60 NODES at most behind it");
        FallingRules byOne = with("a>f(a);", nested(38, "a"));
        byOne.turns(30);
        due("61: turns(1)", byOne.turns(1), 0);
        due("told(5)", byOne.told(5), 60);
        FallingRules byEleven = with(TWELVE, "g(b," + nested(36, "b") + ")");
        due("39 and eleven, then 61: turns(30)", byEleven.turns(30), 1);
        due("told(5)", byEleven.told(5), 50);
        dueLetters("the first one is done, the second not", byEleven, "g" + "f".repeat(11) + "a" + "f".repeat(36) + "b");
        FallingRules doubled = with("f(x)>g(x,x);", "f(" + "g(a,".repeat(15) + "b" + ")".repeat(16));
        due("1 and twice 31: turns(30)", doubled.turns(30), 0);
        due("told(5)", doubled.told(5), 32);
        // At the right g (a, a) could become less, but the first from the left does not fit.
        FallingRules waits = with(TWELVE + "g(a,a)>a;", "g(b,g(" + nested(32, "b") + ",g(a,a)))");
        due("39 and eleven, then 61: turns(30)", waits.turns(30), 1);
        due("no other one is done in its place: next(0)", waits.next(0), 0);
        due("told(5)", waits.told(5), 50);
    }

    private static void oneThatMakesLessAtSixty() {
        about("TURNS are done .. it has 60 NODES at most behind it");
        FallingRules x = with("a>f(a);", nested(38, "a"));
        x.turns(30);
        x.drops(0);
        reads(x, "a>b;f(b)>b;");
        due("as many: turns(1)", x.turns(1), 1);
        due("told(5)", x.told(5), 60);
        due("fewer: turns(30)", x.turns(30), 30);
        due("told(5)", x.told(5), 30);
    }

    private static void noPartWithinThem() {
        about("A TURN .. that have no such part within them");
        dueTurned("f(x)>x;a>b;", "f(a)", 1, "fb");
        dueTurned("f(x)>b;", "f(f(f(a)))", 1, "ffb");
        // The outer one stands first, and its inner ones behind another part of it.
        dueTurned("g(x,y)>a;f(x)>b;", "g(a,g(b,f(a)))", 1, "gagbb");
        dueTurned("f(x)>b;g(x,y)>a;", "g(g(a,b),f(b))", 1, "gafb");
    }

    private static void theFirstFromTheLeft() {
        about("A TURN .. the first one from the left (by its first letter)");
        dueTurned("a>b;", "g(a,a)", 1, "gba");
        dueTurned("a>b;", "g(b,g(a,a))", 1, "gbgba");
        // The left one by its first letter, though the right one is less deep.
        dueTurned("a>b;", "g(f(f(f(a))),a)", 1, "gfffba");
        dueTurned("b>a;a>f(b);", "g(b,a)", 1, "gaa");
    }

    private static void theLeastRule() {
        about("A TURN .. becomes RIGHT of the least such RULE");
        dueTurned("f(x)>a;f(b)>b;", "f(b)", 1, "a");
        dueTurned("f(b)>b;f(x)>a;", "f(b)", 1, "b");
        dueTurned("f(a)>a;f(x)>f(a);f(b)>b;", "f(b)", 1, "fa");
        FallingRules x = with("a>b;b>a;f(x)>x;g(x,y)>y;g(x,y)>x;", "g(y,x)");
        due("next(0)", x.next(0), 3);
        x.first(4);
        due("next(0) behind first(4)", x.next(0), 0);
        x.turns(1);
        dueLetters("behind first(4)", x, "y");
    }

    private static void theSameForTheSame() {
        about("A TURN .. with TERMS in place of UNKNOWNS (the same for the same UNKNOWN)");
        due("others", with("g(x,x)>x;", "g(a,b)").turns(1), 0);
        due("others that begin alike", with("g(x,x)>x;", "g(f(a),f(b))").turns(1), 0);
        due("one within the other", with("g(x,x)>x;", "g(f(a),a)").turns(1), 0);
        dueTurned("g(x,x)>x;", "g(f(a),f(a))", 1, "fa");
        dueTurned("g(x,g(y,x))>y;", "g(f(a),g(b,f(a)))", 1, "b");
        due("the third time another", with("g(x,g(x,x))>b;", "g(a,g(a,b))").turns(1), 0);
        // For x and y it may be the same.
        dueTurned("g(x,y)>f(y);", "g(a,a)", 1, "fa");
    }

    private static void unknownsOfTheTerm() {
        about("letters x, y in it stand for themselves, as if they were letters without parts");
        due("x is not a", with("f(a)>b;", "f(x)").turns(1), 0);
        due("x is not y", with("g(x,x)>b;", "g(x,y)").turns(1), 0);
        dueTurned("g(x,x)>b;", "g(y,y)", 1, "b");
        dueTurned("g(x,y)>f(x);", "g(y,x)", 1, "fy");
        due("x alone has no TURN", with("f(x)>x;", "x").settles(), 0);
        dueTurned("f(y)>g(y,y);", "f(x)", 1, "gxx");
    }

    private static void termsInPlaceOfUnknowns() {
        about("A TURN .. with the same TERMS in place of UNKNOWNS");
        dueTurned("g(x,y)>f(f(b));", "g(a,a)", 1, "ffb");
        dueTurned("g(f(x),y)>f(y);", "g(f(g(a,b)),b)", 1, "fb");
        dueTurned("g(f(x),y)>g(y,x);", "f(g(f(g(a,b)),f(x)))", 1, "fgfxgab");
        dueTurned("f(g(x,y))>g(g(y,y),x);", "g(b,g(f(g(a,f(b))),a))", 1, "gbgggfbfbaa");
        // What is behind the part stays behind it.
        dueTurned("f(x)>x;", "g(f(g(a,b)),g(b,a))", 1, "ggabgba");
    }

    private static void settlesInNone() {
        about("Promise 18: In how many TURNS (0 .. 30)");
        due("no RULES", new FallingRules().settles(), 0);
        due("no TURN", with("f(x)>x;", "g(a,b)").settles(), 0);
        due("one", with("f(x)>x;", "f(a)").settles(), 1);
    }

    private static void settlesInThirty() {
        about("Promise 18: NONE: not in so many");
        for (int n = 28; n <= 33; n++) {
            FallingRules x = with("f(x)>x;", nested(n, "a"));
            due(n + " TURNS: settles()", x.settles(), n <= 30 ? n : NONE);
        }
        FallingRules x = with("f(x)>x;", nested(31, "a"));
        x.turns(1);
        due("one done of 31: settles()", x.settles(), 30);
        due("never", with(ROUND).settles(), NONE);
        // The second RULE would end it, but the innermost comes first.
        due("never, for the innermost", with("a>f(a);f(x)>b;").settles(), NONE);
        due("never, though it would be gone", with("g(x,y)>y;a>b;b>a;", "g(a,x)").settles(), NONE);
    }

    private static void settlesWithinSixtyNodes() {
        about("Promise 18: NONE: .. or one more would have more than 60 NODES.");
        due("comes to 60", with(TWELVE, "g(b," + nested(35, "b") + ")").settles(), 2);
        due("would come to 61", with(TWELVE, "g(b," + nested(36, "b") + ")").settles(), NONE);
        // Behind the one that is too great it would come down again.
        FallingRules x = with(TWELVE + "f(a)>a;", nested(38, "b"));
        due("39 and eleven, then down: settles()", x.settles(), NONE);
        FallingRules great = with("f(x)>g(x,x);", "f(" + "g(a,".repeat(15) + "b" + ")".repeat(16));
        due("the first would have 63", great.settles(), NONE);
        FallingRules full = with("a>f(a);", nested(38, "a"));
        full.turns(30);
        due("61 would be next", full.settles(), NONE);
        full.drops(0);
        due("60 without RULES", full.settles(), 0);
    }

    private static void settlesChangesNothing() {
        about("Promise 18: (nothing is changed)");
        FallingRules x = with("f(x)>x;", "f(f(a))");
        dueNoChange(x, "settles()", () -> due("settles()", x.settles(), 2));
        dueLetters("settles()", x, "ffa");
        due("turns(30)", x.turns(30), 2);
        FallingRules never = with(ROUND, "f(a)");
        dueNoChange(never, "settles()", () -> due("settles()", never.settles(), NONE));
        dueLetters("settles()", never, "fa");
    }

    private static void nextOfNothingAsked() {
        about("Promise 19: BAD.");
        FallingRules none = new FallingRules();
        dueBadOutside(none, "without a TURN: next", 0, 1, none::next);
        FallingRules x = with(ROUND);
        dueBadOutside(x, "next", 0, 1, x::next);
    }

    private static void nextOfNone() {
        about("Promise 19: NONE: no TURN.");
        FallingRules x = with("f(x)>x;", "f(a)");
        due("next(0)", x.next(0), 0);
        due("next(1)", x.next(1), 0);
        x.turns(1);
        dueNoChange(x, "next", () -> {
            due("next(0)", x.next(0), NONE);
            due("next(1)", x.next(1), NONE);
        });
    }

    private static void nextAtTheEnds() {
        about("Promise 19: the place of its part's first letter among letters (1; 0 the first)");
        due("the first letter", with("g(x,y)>y;", "g(a,b)").next(1), 0);
        due("the last letter", with("b>a;", "g(f(a),g(a,b))").next(1), 5);
        FallingRules x = with("a>f(a);", nested(38, "a"));
        for (int place = 38; place < 41; place++) {
            due("next(1)", x.next(1), place);
            x.turns(1);
        }
        FallingRules five = with("a>a;a>b;f(a)>a;g(x,x)>x;b>f(b);", "g(x,f(b))");
        due("RULE 4: next(0)", five.next(0), 4);
        due("RULE 4: next(1)", five.next(1), 3);
    }

    private static void nextBeyondSixty() {
        about("Promise 19: NONE: no TURN. (one that would have 61 NODES is one)");
        FallingRules x = with("a>f(a);", nested(38, "a"));
        x.turns(30);
        due("turns(1)", x.turns(1), 0);
        due("next(0)", x.next(0), 0);
        due("next(1)", x.next(1), 59);
    }

    private static void letterBelowNone() {
        about("Promise 20: BAD: k below -1.");
        FallingRules x = withTerm("g(a,b)");
        for (int k : new int[] {-2, -3, -5, -256, Integer.MIN_VALUE}) {
            dueRefused(x, "letter(" + k + ")", () -> x.letter(k), BAD);
        }
    }

    private static void letterHowMany() {
        about("Promise 20: how many (k NONE)");
        due("a new object", new FallingRules().letter(NONE), 1);
        due("three", withTerm(" g ( a , b ) ").letter(NONE), 3);
    }

    private static void letterNotSoMany() {
        about("Promise 20: -5: not so many.");
        FallingRules x = withTerm("g(x,f(y))");
        due("the first", x.letter(0), 'g');
        due("the last", x.letter(3), 'y');
        dueNoChange(x, "letter beyond", () -> {
            due("one beyond", x.letter(4), FEWER);
            due("two beyond", x.letter(5), FEWER);
            due("60", x.letter(60), FEWER);
            due("far beyond", x.letter(Integer.MAX_VALUE), FEWER);
        });
        term(x, "b");
        due("letters of a greater one are gone", x.letter(1), FEWER);
    }

    private static void lettersOfSixty() {
        about("Promise 20: the k-th letter, by bytes, as it is written from the left (0 on)");
        FallingRules x = with("a>f(a);", nested(38, "a"));
        x.turns(30);
        due("letter(NONE)", x.letter(NONE), 60);
        due("letter(58)", x.letter(58), 'f');
        due("letter(59)", x.letter(59), 'a');
        due("letter(60)", x.letter(60), FEWER);
    }
}
