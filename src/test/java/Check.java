/** Counts answers that are not due, and puts texts on tapes. */
final class Check {
    private final String name;
    private int asked;
    private int wrong;

    Check(String name) {
        this.name = name;
    }

    void due(String call, long got, long want) {
        asked++;
        if (got != want) {
            wrong++;
            System.out.println(name + ": " + call + " answered " + got + ", due is " + want);
        }
    }

    void holds(String what, boolean so) {
        due(what, so ? 1 : 0, 1);
    }

    void finish() {
        System.out.println(name + ": " + asked + " asked, " + wrong + " wrong");
        if (wrong != 0 || asked == 0) {
            System.exit(1);
        }
    }

    /** Puts a text on the tape alone; it is fed in twenties and then cut to its length. */
    static void tape(PencilLine line, String text) {
        line.end(0);
        for (int i = 0; i < text.length(); i += 20) {
            line.feed(four(text, i), four(text, i + 4), four(text, i + 8), four(text, i + 12),
                    four(text, i + 16));
        }
        line.end(text.length());
    }

    static int floe(PencilLine line, String text) {
        tape(line, text);
        return line.floe();
    }

    static PencilLine on(String text) {
        PencilLine line = new PencilLine();
        if (floe(line, text) < 0) {
            throw new IllegalStateException("no floe: " + text);
        }
        return line;
    }

    private static int four(String text, int from) {
        int four = 0;
        for (int i = from; i < from + 4; i++) {
            four = four << 8 | (i < text.length() ? text.charAt(i) & 255 : ' ');
        }
        return four;
    }
}
