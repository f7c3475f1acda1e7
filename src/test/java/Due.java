/** What the tests share: answers that are due, refusals by name, and texts fed byte by byte. */
final class Due {
    static final long BAD = BackBay.NOT - 1;
    static final long STATE = BackBay.NOT - 2;
    static final long FULL = BackBay.NOT - 3;
    static final long NULL = BackBay.NOT - 11;
    static final long PLACE = BackBay.NOT - 12;
    static final long KIND = BackBay.NOT - 13;
    static final long SIZE = BackBay.NOT - 14;
    static final long STORE = BackBay.NOT - 15;
    static final int NONE = BackBay.NONE;

    private int wrong = 0;
    private String sentence = "";

    /** What is due from now on is asked for by this sentence of the document. */
    void of(String words) {
        sentence = "\"" + words + "\": ";
    }

    void due(String what, long got, long want) {
        if (got != want) {
            wrong++;
            System.out.println(sentence + what + " answered " + got + ", due is " + want);
        }
    }

    void holds(String what, boolean true_) {
        due(what + " (1 is: it holds)", true_ ? 1 : 0, 1);
    }

    int wrong() {
        return wrong;
    }

    void end() {
        System.out.println(wrong == 0 ? "all answers are as due" : wrong + " answers are not as due");
        if (wrong != 0) {
            System.exit(1);
        }
    }

    /** The first numbers on either side of those that are taken, and the farthest ones. */
    static int[] outside(int least, int most) {
        return new int[] {least - 1, most + 1, Integer.MIN_VALUE, Integer.MAX_VALUE};
    }

    /** Feeds the text, eight bytes at a time, and reads it. */
    static long read(BackBay x, String text) {
        feed(x, text);
        return x.stencils();
    }

    static void feed(BackBay x, String text) {
        for (int at = 0; at < text.length(); at += 8) {
            String part = text.substring(at, Math.min(at + 8, text.length()));
            x.feed(word(part), part.length());
        }
    }

    static long word(String part) {
        long w = 0;
        for (int i = 0; i < part.length(); i++) {
            w = w << 8 | part.charAt(i) & 255;
        }
        return w;
    }

    /** Sets the bay's start by the ints of row 7, and its number of cells by their number. */
    static void begin(BackBay x, int... start) {
        x.bay(start.length);
        x.row(7, 2, start.length);
        for (int i = 0; i < start.length; i++) {
            x.set(7, i, start[i]);
        }
        x.start(7, 0);
    }
}
