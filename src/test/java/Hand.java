import java.util.function.IntSupplier;
import java.util.function.IntUnaryOperator;

/** What the tests share: texts typed and read, answers compared, refused calls looked at. */
abstract class Hand {
    static final int NONE = -1, BAD = -2, NO = -3, FULL = -4, FEWER = -5;
    static final int FAULT_AT_START = -10;
    static final Due DUE = new Due();

    static void about(String sentence) {
        DUE.about(sentence);
    }

    static void due(String call, long got, long want) {
        DUE.answer(call, got, want);
    }

    static void dueFault(String call, long got, int place) {
        due(call, got, FAULT_AT_START - place);
    }

    static void types(FallingRules x, String text) {
        x.clear();
        for (int i = 0; i < text.length(); i++) {
            x.type(text.charAt(i));
        }
    }

    static int reads(FallingRules x, String text) {
        types(x, text);
        return x.reads();
    }

    static int reads(String text) {
        return reads(new FallingRules(), text);
    }

    static int term(FallingRules x, String text) {
        types(x, text);
        return x.term();
    }

    static int term(String text) {
        return term(new FallingRules(), text);
    }

    static FallingRules with(String rules) {
        FallingRules x = new FallingRules();
        DUE.holds(rules + " is read", reads(x, rules) > 0);
        return x;
    }

    static FallingRules with(String rules, String term) {
        FallingRules x = with(rules);
        DUE.holds(term + " is read", term(x, term) > 0);
        return x;
    }

    static FallingRules withTerm(String term) {
        FallingRules x = new FallingRules();
        DUE.holds(term + " is read", term(x, term) > 0);
        return x;
    }

    static String letters(FallingRules x) {
        StringBuilder all = new StringBuilder();
        int count = x.letter(NONE);
        for (int k = 0; k < count; k++) {
            all.append((char) x.letter(k));
        }
        return all.toString();
    }

    static void dueLetters(String when, FallingRules x, String want) {
        String got = letters(x);
        DUE.holds(when + ": letters are " + got + ", due is " + want, got.equals(want));
    }

    static String shown(FallingRules x, int r) {
        StringBuilder all = new StringBuilder();
        int count = x.shown(r, NONE);
        for (int k = 0; k < count; k++) {
            all.append((char) x.shown(r, k));
        }
        return all.toString();
    }

    static void dueShown(FallingRules x, String... rules) {
        due("told(4)", x.told(4), rules.length);
        for (int r = 0; r < rules.length; r++) {
            String got = shown(x, r);
            DUE.holds("rule " + r + " is " + got + ", due is " + rules[r], got.equals(rules[r]));
        }
    }

    /** f ( f ( .. leaf .. )) with n letters f. */
    static String nested(int n, String leaf) {
        return "f(".repeat(n) + leaf + ")".repeat(n);
    }

    /**
     * A refused call: its answer, and that nothing is changed by it but how often it was so. The digest is
     * made of all there is, so it has to grow by just what one refusal more adds to it.
     */
    static void dueRefused(FallingRules x, String call, IntSupplier asked, int want) {
        int values = 7 + 7 * x.told(4) + x.told(5) + 4 + 4 * x.calls(0) + 3;
        long before = x.digest();
        due(call, asked.getAsInt(), want);
        int refusal = BAD - want;
        long more = 1;
        for (int i = refusal + 1; i < values; i++) {
            more *= 31;
        }
        due(call + " changes nothing but how often: digest()", x.digest(), before + more);
    }

    /** A number that has to be least .. most, told too small and too large. */
    static void dueBadOutside(FallingRules x, String call, int least, int most, IntUnaryOperator asked) {
        int[] outside = {Integer.MIN_VALUE, least - 256, least - 1, most + 1, most + 256, Integer.MAX_VALUE};
        for (int number : outside) {
            dueRefused(x, call + " with " + number, () -> asked.applyAsInt(number), BAD);
        }
    }

    /** A call that is none of those told S, and not refused: it changes nothing. */
    static void dueNoChange(FallingRules x, String call, Runnable asked) {
        long before = x.digest();
        asked.run();
        due(call + " changes nothing: digest()", x.digest(), before);
    }
}
