/** Counts the checks of one test, prints those that fail, and ends with 1 if there was one. */
final class Check {
    interface Call {
        void make();
    }

    private final String test;
    private String sentence = "";
    private int done = 0;
    private int wrong = 0;

    Check(String test) {
        this.test = test;
    }

    /** The words of the document that the checks from here on are about. */
    void about(String words) {
        sentence = " [" + words + "] ";
    }

    void same(String what, long got, long due) {
        done++;
        if (got != due) {
            complain(what + " answered " + got + ", due is " + due);
        }
    }

    void isTrue(String what, boolean got) {
        same(what, got ? 1 : 0, 1);
    }

    void isFalse(String what, boolean got) {
        same(what, got ? 1 : 0, 0);
    }

    void same(String what, String got, String due) {
        done++;
        if (!got.equals(due)) {
            complain(what + " answered <" + got + ">, due is <" + due + ">");
        }
    }

    void fails(String what, Class<? extends RuntimeException> due, Call call) {
        done++;
        try {
            call.make();
            complain(what + " threw nothing, due is " + due.getName());
        } catch (RuntimeException e) {
            if (e.getClass() != due) {
                complain(what + " threw " + e + ", due is " + due.getName());
            }
        }
    }

    boolean isFine() {
        return wrong == 0;
    }

    void finish() {
        System.out.println(test + ": " + done + " checks, " + wrong + " wrong");
        if (wrong != 0 || done == 0) {
            System.exit(1);
        }
    }

    private void complain(String text) {
        wrong++;
        if (wrong <= 40) {
            System.out.println(test + ":" + sentence + " " + text);
        }
    }
}
