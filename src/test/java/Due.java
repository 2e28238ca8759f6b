/** Compares answers with those that are due, prints those that differ, and ends the test. */
final class Due {
    private final String test;
    private String sentence = "";
    private int calls, wrong;

    Due(String test) {
        this.test = test;
    }

    /** Tells which words of the document the answers from now on are about. */
    void sentence(String words) {
        sentence = words;
    }

    void is(String call, long got, long want) {
        calls++;
        if (got != want) {
            wrong++;
            String about = sentence.isEmpty() ? "" : " (\"" + sentence + "\")";
            System.out.println(test + ": " + call + " answered " + got + ", due is " + want + about);
        }
    }

    void isTrue(String what, boolean holds) {
        is(what, holds ? 1 : 0, 1);
    }

    boolean hasWrong() {
        return wrong > 0;
    }

    void end() {
        System.out.println(test + ": " + calls + " answers, " + wrong + " not as due");
        if (wrong > 0 || calls == 0) {
            System.exit(1);
        }
    }
}
