/** Counts answers that are not as due, for one test program. */
final class Checks {
    private final String name;
    private int asked = 0;
    private int wrong = 0;

    Checks(String name) {
        this.name = name;
    }

    void due(String what, long got, long want) {
        asked++;
        if (got != want) {
            wrong++;
            System.out.println(name + ": " + what + " answered " + got + ", due is " + want);
        }
    }

    void holds(String what, boolean yes) {
        due(what, yes ? 1 : 0, 1);
    }

    /** Feeds a text, eight bytes at a time, and has it read. */
    static int read(ThreeBalls x, String text) {
        feed(x, text);
        return x.text();
    }

    static void feed(ThreeBalls x, String text) {
        for (int from = 0; from < text.length(); from += 8) {
            int n = Math.min(8, text.length() - from);
            long bytes = 0;
            for (int k = n - 1; k >= 0; k--) {
                bytes = bytes << 8 | text.charAt(from + k) & 255;
            }
            x.feed(n, bytes);
        }
    }

    void end() {
        System.out.println(name + ": " + asked + " answers, " + wrong + " not as due");
        if (wrong != 0) {
            System.exit(1);
        }
    }
}
