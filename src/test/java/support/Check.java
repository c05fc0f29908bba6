/** Counts the answers that are not due, and prints each of them. */
final class Check {
    private final String name;
    private int asked;
    private int wrong;

    Check(String name) {
        this.name = name;
    }

    void due(String what, long got, long want) {
        asked++;
        if (got != want) {
            wrong++;
            System.out.println(name + ": " + what + " answered " + got + ", due is " + want);
        }
    }

    void isSo(String what, boolean so) {
        due(what, so ? 1 : 0, 1);
    }

    int wrongSoFar() {
        return wrong;
    }

    /** Ends the program if an answer was wrong. */
    void close() {
        System.out.println(name + ": " + asked + " asked, " + wrong + " wrong");
        if (wrong != 0) {
            System.exit(1);
        }
    }

    /** Feeds a text, a byte for each character, to an empty tape and cuts what the last twenty had too many. */
    static void feed(FiveTouch wall, String text) {
        for (int i = 0; i < text.length(); i += 20) {
            wall.feed(four(text, i), four(text, i + 4), four(text, i + 8), four(text, i + 12), four(text, i + 16));
        }
        wall.end(text.length());
    }

    static int law(FiveTouch x, String text) {
        feed(x, text);
        return x.law();
    }

    /** A new law, in force: what law() answered. */
    static int forced(FiveTouch x, String text) {
        int law = law(x, text);
        if (law >= 0) {
            x.force(law);
        }
        return law;
    }

    static int four(String text, int from) {
        int number = 0;
        for (int i = from; i < from + 4; i++) {
            number = number << 8 | (i < text.length() ? text.charAt(i) & 255 : 0);
        }
        return number;
    }
}
