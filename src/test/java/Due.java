/** Counts the calls whose answer is not the one that is due, and prints them. */
final class Due {
    private int wrong = 0;
    private int asked = 0;

    void due(String call, long got, long want) {
        asked++;
        if (got != want) {
            wrong++;
            System.out.println(call + " answered " + got + ", due is " + want);
        }
    }

    void holds(String what, boolean fine) {
        due(what, fine ? 1 : 0, 1);
    }

    /** The end of a test's main method: exit code 1, if an answer was not as due. */
    void end() {
        System.out.println(asked + " asked, " + wrong + " not as due");
        if (wrong != 0) {
            System.exit(1);
        }
    }

    /** Feeds a text's bytes, in the bundles that feed() takes; what stands beyond the tape's room is left. */
    static void feedAll(ScythesKeepStep x, String text) {
        for (int i = 0; i < text.length(); i++) {
            x.feed(1, text.charAt(i), 0, 0, 0, 0);
        }
    }

    static int textOf(ScythesKeepStep x, String text) {
        feedAll(x, text);
        return x.text();
    }

    /** A sheet of ints with these numbers. */
    static void tell(ScythesKeepStep x, int s, int... numbers) {
        x.sheet(s, 2, numbers.length);
        for (int i = 0; i < numbers.length; i++) {
            x.cell(s, i, numbers[i]);
        }
    }
}
