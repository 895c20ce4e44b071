/** Counts and prints answers that are not the ones due; the form of the tests under ../shared/tests. */
final class Due {
    private int wrong;
    private int asked;
    private String sentence = "";

    /** The sentence of the document that the answers from here on are about. */
    void about(String words) {
        sentence = "[" + words + "] ";
    }

    void answer(String call, long got, long want) {
        asked++;
        if (got != want) {
            wrong++;
            System.out.println(sentence + call + " answered " + got + ", due is " + want);
        }
    }

    void holds(String what, boolean so) {
        answer(what, so ? 1 : 0, 1);
    }

    boolean anyWrong() {
        return wrong > 0;
    }

    void end() {
        System.out.println(asked + " answers, " + wrong + " not as due");
        if (wrong != 0) {
            System.exit(1);
        }
    }
}
