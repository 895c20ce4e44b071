/**
 * THE TEXT, what is read from it, and FAULTS (promises 1 to 5): each sentence of the document that names
 * an edge has a test of its own.
 */
public final class EdgesOfTextTest extends Hand {
    private static final String RULE = "g(f(x),y)>f(g(x,y));";
    private static final String LETTERS = "abfgxy";
    /** 12 NODES in 29 bytes. */
    private static final String TWELVE = "f(g(g(g(a,b),a),g(b,g(a,b))))";
    private static final int TEXT_MOST = 120;

    public static void main(String[] args) {
        aNewObject();
        bytesThatMayBeTyped();
        bytesThatMayNotBeTyped();
        typeTellsHowMany();
        textIsFull();
        badComesAheadOfFull();
        fullTextIsRead();
        fullTextEndsTooEarly();
        clearTellsHowManyItHad();
        clearMakesRoom();
        nothingOfTheOldOneIsRead();
        rulesComeBehindThoseThereAre();
        textStaysBehindReads();
        textStaysBehindTerm();
        blanksAnywhere();
        otherBytesAreNoBlanks();
        leastTerms();
        greatestTerm();
        bytesOfARule();
        bytesOfATerm();
        leftIsAnUnknown();
        unknownNotInLeft();
        unknownInLeft();
        twelveNodes();
        thirteenthNodeOfLeft();
        thirteenthNodeOfRight();
        sixtyFirstNode();
        sixthRule();
        sixthRuleBehindBlanks();
        roomForARuleAgain();
        rulesEndTooEarly();
        termEndsTooEarly();
        emptyText();
        blanksAlone();
        emptyTextWithFiveRules();
        moreThanATerm();
        allStaysByAFaultOfReads();
        allStaysByAFaultOfTerm();
        DUE.end();
    }

    private static void aNewObject() {
        about("Promise 1: As told; no RULES.");
        FallingRules x = new FallingRules();
        int[] told = {0, 0, 0, 0, 0, 1, 0};
        for (int what = 0; what <= 6; what++) {
            due("told(" + what + ")", x.told(what), told[what]);
        }
        dueLetters("THE TERM (a at first", x, "a");
        due("of(0, 0)", x.of(0, 0), BAD);
        dueFault("THE TEXT is empty: reads()", x.reads(), 0);
        due("no STATES: back()", x.back(), NO);
    }

    private static void bytesThatMayBeTyped() {
        about("Promise 2: A byte (0 .. 127) comes behind THE TEXT");
        FallingRules low = new FallingRules();
        for (int c = 0; c < 64; c++) {
            due("type(" + c + ")", low.type(c), c + 1);
        }
        FallingRules high = new FallingRules();
        for (int c = 64; c <= 127; c++) {
            due("type(" + c + ")", high.type(c), c - 63);
        }
        FallingRules behind = new FallingRules();
        behind.type('f');
        behind.type('(');
        behind.type('b');
        behind.type(')');
        due("as they came: term()", behind.term(), 2);
        dueLetters("as they came", behind, "fb");
    }

    private static void bytesThatMayNotBeTyped() {
        about("Promise 2: BAD");
        FallingRules x = withTerm("f(b)");
        // By its last eight bits 353 is an a.
        int[] wrong = {-1, 128, 353, 97 - 256, 97 + 65536, 255, 256, Integer.MIN_VALUE, Integer.MAX_VALUE};
        for (int c : wrong) {
            dueRefused(x, "type(" + c + ")", () -> x.type(c), BAD);
        }
        due("THE TEXT is as it was: term()", x.term(), 2);
    }

    private static void typeTellsHowMany() {
        about("Promise 2: how many it has");
        FallingRules x = new FallingRules();
        for (int n = 1; n <= TEXT_MOST; n++) {
            due("type(98) no. " + n, x.type('b'), n);
        }
        due("told(3)", x.told(3), TEXT_MOST);
    }

    private static void textIsFull() {
        about("Promise 2: FULL: 120.");
        FallingRules x = new FallingRules();
        types(x, "a>b;" + " ".repeat(116));
        dueRefused(x, "type('%')", () -> x.type('%'), FULL);
        dueRefused(x, "type(0)", () -> x.type(0), FULL);
        dueRefused(x, "type(127)", () -> x.type(127), FULL);
        due("the 121st byte is not there: reads()", x.reads(), 1);
    }

    private static void badComesAheadOfFull() {
        about("the first of: BAD -2 a number is not as told; NO -3 as told; FULL -4 as told.");
        FallingRules x = new FallingRules();
        types(x, " ".repeat(TEXT_MOST));
        dueRefused(x, "type(-1)", () -> x.type(-1), BAD);
        dueRefused(x, "type(128)", () -> x.type(128), BAD);
        due("told(0)", x.told(0), 2);
        due("told(2)", x.told(2), 0);
    }

    private static void fullTextIsRead() {
        about("THE TEXT (120 bytes at most)");
        due("RULES up to the 120th byte", reads("a>b;" + " ".repeat(112) + "b>a;"), 2);
        due("a TERM that is the 120th byte", term(" ".repeat(119) + "b"), 1);
        dueFault("a FAULT at the 120th byte", reads("a>b;" + " ".repeat(115) + ";"), 119);
    }

    private static void fullTextEndsTooEarly() {
        about("the TEXT's length, if it ends too early (120 bytes at most)");
        for (String begun : new String[] {"a", "f", "f(", "f(x", "g(x", "f(x)", "f(x)>", "f(x)>x", "f(x)>f(x"}) {
            String full = begun + " ".repeat(TEXT_MOST - begun.length());
            dueFault("reads() of " + begun + " and blanks", reads(full), TEXT_MOST);
        }
        for (String begun : new String[] {"f", "f(", "f(x", "g(x", "g(x,y"}) {
            String full = " ".repeat(TEXT_MOST - begun.length()) + begun;
            dueFault("term() of blanks and " + begun, term(full), TEXT_MOST);
        }
    }

    private static void clearTellsHowManyItHad() {
        about("Promise 3: THE TEXT is empty: how many it had.");
        FallingRules x = new FallingRules();
        due("clear() of an empty one", x.clear(), 0);
        x.type('a');
        due("clear() of one byte", x.clear(), 1);
        for (int n = 0; n <= TEXT_MOST; n++) {
            x.type(' ');
        }
        due("clear() of a full one", x.clear(), TEXT_MOST);
        due("clear() again", x.clear(), 0);
        due("told(3)", x.told(3), 0);
        due("no STATE is left: told(6)", x.told(6), 0);
    }

    private static void clearMakesRoom() {
        about("Promise 3: THE TEXT is empty");
        FallingRules x = new FallingRules();
        types(x, "g(a,b)>b;".repeat(14));
        x.clear();
        dueFault("reads()", x.reads(), 0);
        due("type('b')", x.type('b'), 1);
        due("nothing of the old one is there: term()", x.term(), 1);
        dueLetters("nothing of the old one is there", x, "b");
    }

    private static void nothingOfTheOldOneIsRead() {
        about("Promise 3: THE TEXT is empty");
        FallingRules x = new FallingRules();
        for (int n = 0; n < RULE.length(); n++) {
            types(x, RULE);
            x.clear();
            for (int i = 0; i < n; i++) {
                x.type(RULE.charAt(i));
            }
            dueFault("reads() of " + n + " bytes", x.reads(), n);
            if (n % 8 == 7) {
                x = new FallingRules();
            }
        }
    }

    private static void rulesComeBehindThoseThereAre() {
        about("Promise 4: RULES of THE TEXT (which stays) come behind those there are: how many there are.");
        FallingRules x = new FallingRules();
        due("none there: reads()", reads(x, "a>b;b>a;"), 2);
        due("two there: reads()", reads(x, "f(x)>x;"), 3);
        due("three there: reads()", reads(x, "g(x,y)>y;g(x,y)>x;"), 5);
        dueShown(x, "a>b", "b>a", "f(x)>x", "g(x,y)>y", "g(x,y)>x");
        due("five at once", reads("a>b;b>a;f(x)>x;g(x,y)>y;a>a;"), 5);
    }

    private static void textStaysBehindReads() {
        about("Promise 4: THE TEXT (which stays)");
        FallingRules x = with("a>b;");
        due("told(3)", x.told(3), 4);
        for (int n = 2; n <= 5; n++) {
            due("reads() no. " + n, x.reads(), n);
        }
        dueFault("reads() no. 6", x.reads(), 0);
        due("type(' ')", x.type(' '), 5);
    }

    private static void textStaysBehindTerm() {
        about("Promise 5: THE TEXT (which stays)");
        FallingRules x = withTerm("f(b)");
        due("told(3)", x.told(3), 4);
        due("term() again", x.term(), 2);
        due("type(' ')", x.type(' '), 5);
    }

    private static void blanksAnywhere() {
        about("Blanks (32) may stand anywhere.");
        StringBuilder spread = new StringBuilder("  ");
        for (char c : RULE.toCharArray()) {
            spread.append(c).append("  ");
        }
        FallingRules x = with(spread.toString());
        dueShown(x, "g(f(x),y)>f(g(x,y))");
        for (int place = 0; place <= RULE.length(); place++) {
            due("one at " + place, reads(RULE.substring(0, place) + " " + RULE.substring(place)), 1);
        }
        String tree = "g(f(x),b)";
        for (int place = 0; place <= tree.length(); place++) {
            due("in a TERM at " + place, term(tree.substring(0, place) + "  " + tree.substring(place)), 4);
        }
    }

    private static void otherBytesAreNoBlanks() {
        about("Blanks (32)");
        for (char c : new char[] {0, 9, 10, 11, 12, 13, 31, 33, 95, 127}) {
            dueFault("byte " + (int) c + " in RULES", reads("a" + c + ">b;"), 1);
            dueFault("byte " + (int) c + " behind RULES", reads("a>b;" + c), 4);
            dueFault("byte " + (int) c + " in a TERM", term("f(" + c + "a)"), 2);
            dueFault("byte " + (int) c + " behind a TERM", term("a" + c), 1);
        }
    }

    private static void leastTerms() {
        about("A TERM: a or b; x or y (UNKNOWNS); f ( TERM ); g ( TERM , TERM ).");
        for (String one : new String[] {"a", "b", "x", "y"}) {
            FallingRules x = new FallingRules();
            due("term() of " + one, term(x, one), 1);
            dueLetters("term() of " + one, x, one);
            due("term() of f(" + one + ")", term("f(" + one + ")"), 2);
            due("term() of g(" + one + "," + one + ")", term("g(" + one + "," + one + ")"), 3);
        }
        dueFault("f alone", term("f"), 1);
        dueFault("g alone", term("g"), 1);
        dueFault("f ()", term("f()"), 2);
        dueFault("g (,)", term("g(,)"), 2);
        dueFault("g (a,)", term("g(a,)"), 4);
    }

    private static void greatestTerm() {
        about("Promise 5: THE TERM becomes that of THE TEXT (which stays): how many NODES.");
        // No greater one can be typed: a g and a leaf take 5 bytes, an f takes 3.
        String greatest = "f(" + "g(a,".repeat(23) + "y" + ")".repeat(24);
        FallingRules x = new FallingRules();
        due("119 bytes", greatest.length(), 119);
        due("term()", term(x, greatest), 48);
        due("told(5)", x.told(5), 48);
        dueLetters("the greatest", x, "f" + "ga".repeat(23) + "y");
        due("the other way round", term("g(".repeat(23) + "x" + ",b)".repeat(23)), 47);
    }

    /** What may stand at each place of RULE, beside blanks; the last one is behind it. */
    private static void bytesOfARule() {
        about("FAULT: the place of the first byte that can not stand there");
        String l = LETTERS;
        String[] may = {"abfg", "(", l, "(", l, ")", ",", l, ")", ">",
            l, "(", l, "(", l, ",", l, ")", ")", ";", "abfg"};
        for (int place = 0; place < may.length; place++) {
            for (int c = 0; c <= 127; c++) {
                String text = RULE.substring(0, place) + (char) c;
                boolean ends = c == ';' && place == 19 || c == ' ' && place == 20;
                boolean stands = c == ' ' || may[place].indexOf(c) >= 0;
                int want = ends ? 1 : FAULT_AT_START - (stands ? place + 1 : place);
                due("reads() of " + text + " (byte " + c + ")", reads(text), want);
            }
        }
    }

    private static void bytesOfATerm() {
        about("FAULT: the place of the first byte that can not stand there");
        String tree = "g(f(x),y)";
        String[] may = {LETTERS, "(", LETTERS, "(", LETTERS, ")", ",", LETTERS, ")", ""};
        for (int place = 0; place < may.length; place++) {
            for (int c = 0; c <= 127; c++) {
                String text = tree.substring(0, place) + (char) c;
                boolean stands = c == ' ' || may[place].indexOf(c) >= 0;
                int want = FAULT_AT_START - (stands ? place + 1 : place);
                if (place == 0 && "abxy".indexOf(c) >= 0) {
                    want = 1;
                } else if (place >= 8 && stands && (c == ')' || place == 9)) {
                    want = 4;
                }
                due("term() of " + text + " (byte " + c + ")", term(text), want);
            }
        }
    }

    private static void leftIsAnUnknown() {
        about("LEFT that is an UNKNOWN .. : its letter");
        for (String unknown : new String[] {"x", "y"}) {
            dueFault("first", reads(unknown + ">a;"), 0);
            dueFault("alone", reads(unknown), 0);
            dueFault("behind blanks", reads("   " + unknown + " > a ;"), 3);
            dueFault("of a second RULE", reads("g(x,y)>y;" + unknown + ">a;"), 9);
            dueFault("the same on both sides", reads(unknown + ">" + unknown + ";"), 0);
            due("within LEFT it may stand", reads("f(" + unknown + ")>a;"), 1);
        }
    }

    private static void unknownNotInLeft() {
        about("an UNKNOWN in RIGHT that does not stand in LEFT .. : its letter");
        dueFault("y alone", reads("f(x)>y;"), 5);
        dueFault("x alone", reads("f(y)>x;"), 5);
        dueFault("y within", reads("f(x)>g(x,f(  y));"), 13);
        dueFault("x within", reads("f(y)>g(f(y),x);"), 12);
        dueFault("LEFT without", reads("a>f(x);"), 4);
        dueFault("it stood in the RULE ahead", reads("g(x,y)>y;f(x)>y;"), 14);
        dueFault("the first of two", reads("b>g(y,x);"), 4);
        FallingRules x = with("g(x,y)>y;");
        dueFault("it stands in a RULE there is", reads(x, "f(x)>y;"), 5);
    }

    private static void unknownInLeft() {
        about("a RIGHT TERM whose UNKNOWNS all stand in LEFT");
        due("none of them", reads("g(x,y)>a;"), 1);
        due("x of both", reads("g(x,y)>x;"), 1);
        due("y of both", reads("g(x,y)>y;"), 1);
        due("both", reads("g(y,x)>g(x,y);"), 1);
        due("twice, where once in LEFT", reads("f(f(f(y)))>g(y,g(y,y));"), 1);
    }

    private static void twelveNodes() {
        about("12 NODES at most on each side");
        FallingRules x = with(TWELVE + ">" + TWELVE + ";");
        due("of(0, 0)", x.of(0, 0), 12);
        due("of(0, 1)", x.of(0, 1), 12);
        due("12 in a row", reads(nested(11, "x") + ">" + nested(11, "x") + ";"), 1);
        due("12 in each of two LEFTS", reads(TWELVE + ">a;" + TWELVE + ">a;"), 2);
        due("12 in each of two RIGHTS", reads("a>" + TWELVE + ";a>" + TWELVE + ";"), 2);
    }

    private static void thirteenthNodeOfLeft() {
        about("a 13th NODE of a side .. : its letter");
        for (char letter : LETTERS.toCharArray()) {
            dueFault("the 13th is " + letter, reads("f(".repeat(12) + letter), 24);
            dueFault("behind blanks " + letter, reads("f(".repeat(12) + "   " + letter), 27);
        }
        // f, g, g, g, a, b, a, g, b, g, a, g are twelve already.
        dueFault("the 13th is a leaf", reads("f(g(g(g(a,b),a),g(b,g(a,g(b,a)))))>a;"), 26);
        dueFault("of a second RULE", reads(TWELVE + ">a;" + nested(12, "a") + ">a;"), 32 + 24);
        dueFault("the 13th closes the TERM", reads(nested(12, "a") + ">a;"), 24);
        dueFault("no letter is no NODE", reads("f(".repeat(12) + "%"), 24);
    }

    private static void thirteenthNodeOfRight() {
        about("a 13th NODE of a side .. : its letter");
        for (char letter : "abfgx".toCharArray()) {
            dueFault("the 13th is " + letter, reads("f(x)>" + "f(".repeat(12) + letter), 29);
            dueFault("behind blanks " + letter, reads("f(x)> " + "f(".repeat(12) + " " + letter), 31);
        }
        dueFault("LEFT of 12, RIGHT of 13", reads(TWELVE + ">" + nested(12, "a") + ";"), 30 + 24);
        due("LEFT of 1, RIGHT of 12", reads("a>" + nested(11, "a") + ";"), 1);
        due("LEFT of 12, RIGHT of 1", reads(nested(11, "a") + ">a;"), 1);
    }

    /** Its place would be 120 at least, so it is told where THE TEXT ends: it can't be typed. */
    private static void sixtyFirstNode() {
        about("a 13th NODE of a side (of THE TERM a 61st): its letter");
        dueFault("60 letters f", term("f(".repeat(60)), 120);
        dueFault("30 letters g, 30 a", term("g(a,".repeat(30)), 120);
        due("a 13th may stand in THE TERM", term(nested(12, "a")), 13);
    }

    private static void sixthRule() {
        about("the first byte of a 6th RULE, with those there are");
        for (int there = 0; there <= 5; there++) {
            FallingRules x = new FallingRules();
            for (int n = 1; n <= there; n++) {
                due("one more", reads(x, "b>a;"), n);
            }
            int room = 5 - there;
            dueFault(there + " there, a 6th", reads(x, "a>b;".repeat(room + 1)), 4 * room);
            dueFault(there + " there, a 6th that is none", reads(x, "a>b;".repeat(room) + "%"), 4 * room);
            dueFault(there + " there, a letter", reads(x, "a>b;".repeat(room) + "f"), 4 * room);
            due(there + " there, still so many", x.told(4), there);
            if (room > 0) {
                due(there + " there, a 5th", reads(x, "a>b;".repeat(room)), 5);
            }
        }
    }

    private static void sixthRuleBehindBlanks() {
        about("the first byte of a 6th RULE, with those there are");
        String five = "a>b;".repeat(5);
        dueFault("blanks are no byte of it", reads(five + "   b>a;"), 23);
        due("blanks alone behind five", reads(five + "   "), 5);
        FallingRules x = with(five);
        dueFault("five there", reads(x, "   b>a;"), 3);
        dueFault("five there, an UNKNOWN", reads(x, " x>a;"), 1);
    }

    private static void roomForARuleAgain() {
        about("the first byte of a 6th RULE, with those there are");
        FallingRules x = with("a>b;".repeat(5));
        dueFault("five there", reads(x, "b>a;"), 0);
        x.drops(2);
        due("four there", x.reads(), 5);
        dueFault("five again", x.reads(), 0);
        x.back();
        due("four again", x.reads(), 5);
    }

    private static void rulesEndTooEarly() {
        about("the TEXT's length, if it ends too early");
        for (int n = 1; n < RULE.length(); n++) {
            String text = RULE.substring(0, n);
            dueFault(text, reads(text), n);
            dueFault(text + " and blanks", reads(text + "  "), n + 2);
            dueFault(text + " behind a RULE", reads("a>b; " + text), 5 + n);
        }
        dueFault("behind 12 NODES of LEFT", reads("f(".repeat(12)), 24);
        dueFault("behind 12 NODES of RIGHT and blanks", reads("a>" + "f(".repeat(12) + "  "), 28);
    }

    private static void termEndsTooEarly() {
        about("the TEXT's length, if it ends too early");
        String tree = "g(f(x),g(a,y))";
        for (int n = 1; n < tree.length(); n++) {
            String text = tree.substring(0, n);
            dueFault(text, term(text), n);
            dueFault(text + " and blanks", term(text + "  "), n + 2);
        }
    }

    private static void emptyText() {
        about("if it ends too early (an empty one .. too)");
        FallingRules x = new FallingRules();
        dueFault("reads()", x.reads(), 0);
        dueFault("term()", x.term(), 0);
        due("told(6)", x.told(6), 0);
    }

    private static void blanksAlone() {
        about("if it ends too early (.. one of blanks alone, too)");
        for (int n : new int[] {1, 2, 119, 120}) {
            dueFault("reads() of " + n, reads(" ".repeat(n)), n);
            dueFault("term() of " + n, term(" ".repeat(n)), n);
        }
    }

    private static void emptyTextWithFiveRules() {
        about("if it ends too early (an empty one, one of blanks alone, too)");
        FallingRules x = with("a>b;".repeat(5));
        dueFault("an empty one", reads(x, ""), 0);
        dueFault("blanks", reads(x, "   "), 3);
        due("told(4)", x.told(4), 5);
    }

    private static void moreThanATerm() {
        about("THE TEXT is RULES .. or a TERM, as it is asked for");
        dueFault("two TERMS", term("a b"), 2);
        dueFault("a RULE as a TERM", term("a>b;"), 1);
        dueFault("a TERM and ;", term("f(a) ;"), 5);
        dueFault("a TERM as RULES", reads("f(a)"), 4);
        dueFault("one bracket too many", term("f(a))"), 4);
    }

    private static void allStaysByAFaultOfReads() {
        about("Promise 4: -10 less the FAULT: all stays.");
        FallingRules x = with("a>b;", "f(a)");
        types(x, "f(a)");
        dueNoChange(x, "reads() of a TERM", () -> dueFault("reads()", x.reads(), 4));
        due("THE TEXT stays: term()", x.term(), 2);
        types(x, "b>a;f(x)>x;f(x)>y;");
        dueNoChange(x, "reads() with a FAULT in the third RULE", () -> dueFault("reads()", x.reads(), 16));
        dueShown(x, "a>b");
        due("back()", x.back(), 2);
        dueShown(x, "a>b");
    }

    private static void allStaysByAFaultOfTerm() {
        about("Promise 5: -10 less the FAULT: all stays.");
        FallingRules x = with("a>b;", "f(a)");
        types(x, "b>a;");
        dueNoChange(x, "term() of a RULE", () -> dueFault("term()", x.term(), 1));
        dueLetters("THE TERM stays", x, "fa");
        due("THE TEXT stays: reads()", x.reads(), 2);
        types(x, "g(b,f(b)");
        dueNoChange(x, "term() that ends too early", () -> dueFault("term()", x.term(), 8));
        dueLetters("THE TERM stays", x, "fa");
        x.back();
        dueLetters("behind back()", x, "fa");
    }
}
