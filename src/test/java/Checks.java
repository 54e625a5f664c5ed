/** Counts answers, and tells each that is not as due with the sentence of the document that it is about. */
final class Checks {
    private String sentence = "";
    private int made = 0;
    private int wrong = 0;

    /** The words of the document that the next answers are about. */
    void sentence(String words) {
        sentence = words;
    }

    void due(int want, int got) {
        due(want, got, "");
    }

    void due(int want, int got, String call) {
        made++;
        if (want != got) {
            tell(call + " answered " + got + ", due is " + want);
        }
    }

    void fine(boolean holds, String what) {
        made++;
        if (!holds) {
            tell(what);
        }
    }

    private void tell(String what) {
        wrong++;
        StackTraceElement[] frames = new Throwable().getStackTrace();
        int i = 0;
        while (i + 1 < frames.length && frames[i].getClassName().equals(Checks.class.getName())) {
            i++;
        }
        System.out.println("\"" + sentence + "\", line " + frames[i].getLineNumber() + ": " + what);
    }

    void close() {
        System.out.println(wrong == 0 ? made + " answers are as due" : wrong + " answers are not as due");
        if (wrong != 0 || made == 0) {
            System.exit(1);
        }
    }
}
