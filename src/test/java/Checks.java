/** Compares answers with those that are due, and counts the wrong ones. */
final class Checks {
    private int wrong = 0;
    private String about = "";
    private String text = "";

    void about(String what) {
        about = what;
        text = "";
    }

    /** The text that the object at hand was read from, for the report. */
    void text(String what) {
        text = " [" + what + "]";
    }

    void due(String call, long got, long want) {
        if (got != want) {
            wrong++;
            System.out.println(about + text + ": " + call + " answered " + got + ", due is " + want);
        }
    }

    /** The latest number must be this fraction. */
    void number(BoundProofs x, long top, long bottom) {
        due("upper()", x.upper(), top);
        due("lower()", x.lower(), bottom);
    }

    void end() {
        System.out.println(wrong == 0 ? "all answers are as due" : wrong + " answers are not as due");
        if (wrong != 0) {
            System.exit(1);
        }
    }

    /** Types a text into an empty one and reads it. */
    static int tell(BoundProofs x, String text) {
        x.clear();
        for (int i = 0; i < text.length(); i++) {
            x.type(text.charAt(i));
        }
        return x.tells();
    }

    static BoundProofs of(String text) {
        BoundProofs x = new BoundProofs();
        int answer = tell(x, text);
        if (answer < 0) {
            throw new IllegalStateException("the test's own text is wrong: " + text + " " + answer);
        }
        return x;
    }
}
