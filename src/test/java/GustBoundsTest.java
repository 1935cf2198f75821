/**
 * Each sentence of promises 28 to 31 that names a boundary case: gusts by lots, images. What is due of lots has been
 * reckoned apart from the class.
 */
public final class GustBoundsTest {
    private static final Steps T = new Steps();
    private static final String[] STILL = {"text: swings 0;tires 0;keeps 0; = 1", "force(1) = 0", "sets(2, 0) = 3"};
    private static final String[] BY6 = {"text: swings 6;tires 0;keeps 0; = 1", "force(1) = 0"};
    private static final String[] SIX = {"sets(0, 9) = 2", "mower(0, 0) = 0", "mower(0, 100) = 1", "mower(0, 200) = 2",
        "mower(0, 300) = 3", "mower(0, 400) = 4", "mower(0, 500) = 5"};

    public static void main(String[] args) {
        drawnRefuses();
        seeds();
        mowersOfLots();
        drawnInThought();
        oddsRefuse();
        oddsSeeds();
        oddsLeast();
        oddsInLowestTerms();
        images();
        imagesOfAll();
        backRefuses();
        backToFewer();
        backKeepsTheRest();
        T.end();
    }

    private static void drawnRefuses() {
        for (String seed : new String[] {"-1", "100000", "MIN", "MAX"}) {
            T.test("28: seed", "drawn(" + seed + ", 0) ! -2", "drawn(" + seed + ", 1) ! -2");
        }
        for (String what : new String[] {"-1", "2", "MIN", "MAX"}) {
            T.test("28: what", Steps.with(SIX, "drawn(0, " + what + ") ! -2"));
        }
    }

    /** Behind the gusts of a seed all six are at these swings, if nobody swings by himself. */
    private static void ends(int seed, int... swings) {
        for (int beat = 0; beat < 12; beat++) {
            int bits = 0;
            for (int m = 0; m < 6; m++) {
                bits |= swings[m] == beat ? 1 << m : 0;
            }
            T.test("28: seed " + seed + ", at " + beat, Steps.with(STILL, Steps.with(SIX,
                "sets(1, " + beat + ") " + (beat == 0 ? "?" : "=") + " 0", "drawn(" + seed + ", 1) ? " + bits)));
        }
        T.test("28: a gust cuts nothing, seed " + seed, Steps.with(STILL, Steps.with(SIX, "drawn(" + seed + ", 0) ? 0")));
    }

    private static void seeds() {
        ends(0, 1, 4, 0, 0, 0, 9);
        ends(1, 0, 10, 3, 6, 3, 5);
        ends(99999, 0, 0, 5, 9, 3, 0);
        T.test("28: seed 0, six by 6", Steps.with(BY6, Steps.with(SIX, "drawn(0, 0) ? 31")));
        T.test("28: seed 99999, six by 6", Steps.with(BY6, Steps.with(SIX, "drawn(99999, 0) ? 30")));
        T.test("28: seed 0, six by 11", "text: swings 11;tires 0;keeps 0; = 1", "force(1) = 0", SIX[0], SIX[1], SIX[2],
            SIX[3], SIX[4], SIX[5], SIX[6], "drawn(0, 0) ? 52", "drawn(99999, 0) ? 54");
    }

    private static void mowersOfLots() {
        T.test("28: nobody", "drawn(0, 0) ? 0", "drawn(0, 1) ? 0", "drawn(99999, 0) ? 0", "drawn(99999, 1) ? 0");
        T.test("28: one alone, of lots for six", Steps.with(BY6, "mower(0, 0) = 0", "drawn(0, 0) ? 5",
            "drawn(99999, 0) ? 5", "sets(2, 0) = 3", "sets(1, 1) = 0", "drawn(0, 1) ? 1", "drawn(99999, 1) ? 0"));
        T.test("28: a lot for who isn't any more", Steps.with(STILL, "mower(0, 500) = 0", "image() = 1",
            "mower(0, 0) = 1", "back() = 1", "sets(1, 1) = 0", "drawn(0, 1) ? 1"));
        T.test("28: ten strokes", Steps.with(STILL, "mower(0, 500) = 0", "sets(2, 1) = 0", "sets(1, 3) = 0",
            "drawn(0, 1) ? 1", "sets(1, 4) = 3", "drawn(0, 1) ? 0", "sets(1, 2) = 4", "drawn(0, 1) ? 0"));
    }

    private static void drawnInThought() {
        T.test("28: beyond stroke 999", Steps.with(BY6, Steps.with(SIX, "sets(3, 999) = 0", "drawn(0, 0) ? 31")));
        T.test("28: cut at 9999", Steps.with(BY6, Steps.with(SIX, "sets(4, 9999) = 0", "drawn(0, 0) ? 31")));
        T.test("28: the same again", Steps.with(BY6, Steps.with(SIX, "drawn(0, 0) ? 31", "drawn(0, 0) ? 31")));
        T.test("28: tired by 99 one is blown on, too", Steps.with(STILL, "mower(0, 500) = 0", "put(0, 2, 99) = 0",
            "sets(1, 1) = 0", "drawn(0, 1) ? 1"));
    }

    private static void oddsRefuse() {
        for (String seed : new String[] {"-1", "100000", "MIN", "MAX"}) {
            T.test("29: seed", Steps.with(SIX, "odds(" + seed + ", 1, 0, 0) ! NO"));
        }
        for (String seeds : new String[] {"0", "-1", "41", "MIN", "MAX"}) {
            T.test("29: seeds", Steps.with(SIX, "odds(0, " + seeds + ", 0, 0) ! NO", "odds(0, " + seeds + ", 0, 1) ! NO"));
        }
        for (String least : new String[] {"-1", "100", "MIN", "MAX"}) {
            T.test("29: least", Steps.with(SIX, "odds(0, 1, " + least + ", 0) ! NO"));
        }
        for (String part : new String[] {"-1", "2", "MIN", "MAX"}) {
            T.test("29: part", Steps.with(SIX, "odds(0, 1, 0, " + part + ") ! NO"));
        }
    }

    private static void oddsSeeds() {
        String[] one = Steps.with(BY6, "mower(0, 0) = 0");
        T.test("29: seeds 99999 to 100038, by 6 or more one", Steps.with(one, "odds(99999, 40, 6, 0) ? 1",
            "odds(99999, 40, 6, 1) ? 40"));
        T.test("29: seeds 99999 to 100036, by 4 or more all", Steps.with(one, "odds(99999, 38, 4, 0) ? 1",
            "odds(99999, 38, 4, 1) ? 1"));
        T.test("29: seeds 99999 to 100037, by 4 or more all but the last", Steps.with(one, "odds(99999, 39, 4, 0) ? 38",
            "odds(99999, 39, 4, 1) ? 39"));
        T.test("29: one seed", Steps.with(one, "odds(0, 1, 5, 0) ? 1", "odds(0, 1, 5, 1) ? 1", "odds(5, 1, 5, 0) ? 0",
            "odds(5, 1, 5, 1) ? 1"));
        T.test("29: two seeds", Steps.with(one, "odds(4, 2, 5, 0) ? 1", "odds(4, 2, 5, 1) ? 2"));
        T.test("29: nobody", "odds(0, 40, 0, 0) ? 1", "odds(0, 40, 0, 1) ? 1", "odds(0, 40, 1, 0) ? 0",
            "odds(0, 40, 1, 1) ? 1");
    }

    private static void oddsLeast() {
        String[] six = Steps.with(BY6, SIX);
        T.test("29: least 0", Steps.with(six, "odds(0, 40, 0, 0) ? 1", "odds(0, 40, 0, 1) ? 1"));
        T.test("29: least 99", Steps.with(six, "odds(0, 40, 99, 0) ? 0", "odds(0, 40, 99, 1) ? 1"));
        T.test("29: just as much", Steps.with(six, "odds(0, 1, 31, 0) ? 1", "odds(99999, 1, 30, 0) ? 1"));
        T.test("29: one more than that", Steps.with(six, "odds(0, 1, 32, 0) ? 0", "odds(99999, 1, 31, 0) ? 0"));
    }

    private static void oddsInLowestTerms() {
        String[] one = Steps.with(BY6, "mower(0, 0) = 0");
        T.test("29: 2 of 4 is 1 of 2", Steps.with(one, "odds(7, 4, 5, 0) ? 1", "odds(7, 4, 5, 1) ? 2"));
        T.test("29: 5 of 6", Steps.with(one, "odds(0, 6, 5, 0) ? 5", "odds(0, 6, 5, 1) ? 6"));
        T.test("29: 6 of 8 is 3 of 4", Steps.with(one, "odds(0, 8, 5, 0) ? 3", "odds(0, 8, 5, 1) ? 4"));
        T.test("29: none of 3 is 0 of 1", Steps.with(one, "odds(0, 3, 6, 0) ? 0", "odds(0, 3, 6, 1) ? 1"));
        T.test("29: all of 5 is 1 of 1", Steps.with(one, "odds(0, 5, 5, 0) ? 1", "odds(0, 5, 5, 1) ? 1"));
    }

    private static void images() {
        T.test("30: of nobody", "image() = 0", "back() ? 0");
        T.test("30: of one", "mower(0, 500) = 0", "image() = 1", "back() ? 1");
        T.test("30: of six", Steps.with(SIX, "image() = 6", "back() ? 6"));
        T.test("30: the last one is kept", "image() = 0", "mower(0, 500) = 0", "image() = 1", "sets(1, 5) = 0",
            "back() = 1", "row(1) ? 0", "count(0) ? 1");
        T.test("30: the same image again changes nothing", "mower(0, 500) = 0", "image() = 1", "image() ? 1");
    }

    private static void imagesOfAll() {
        T.test("31: the gap", "image() = 0", "sets(0, 9) = 2", "back() = 0", "row(0) ? 2");
        T.test("31: the beat", "sets(1, 11) = 0", "image() = 0", "sets(1, 0) = 11", "back() = 0", "row(1) ? 11");
        T.test("31: the pace", "image() = 0", "sets(2, 11) = 3", "back() = 0", "row(2) ? 3");
        T.test("31: the stroke", "sets(3, 999) = 0", "image() = 0", "sets(3, 0) = 999", "back() = 0", "row(3) ? 999",
            "stroke() ! -3");
        T.test("31: cut", "sets(4, 9999) = 0", "image() = 0", "sets(4, 0) = 9999", "back() = 0", "row(4) ? 9999");
        T.test("31: places", Steps.with(SIX, "image() = 6", "put(0, 0, 6) = 0", "put(5, 0, 7) = 5", "back() = 6",
            "told(0, 0) ? 0", "told(5, 0) ? 5"));
        T.test("31: swings", Steps.with(SIX, "image() = 6", "put(0, 1, 6) = 0", "put(5, 1, 7) = 0", "back() = 6",
            "told(0, 1) ? 0", "told(5, 1) ? 0"));
        T.test("31: tired", Steps.with(SIX, "put(5, 2, 99) = 0", "image() = 6", "put(0, 2, 6) = 0", "put(5, 2, 7) = 99",
            "back() = 6", "told(0, 2) ? 0", "told(5, 2) ? 99"));
        T.test("31: the law", Steps.with(BY6, "image() = 0", "force(0) = 1", "back() = 0", "count(3) ? 1"));
        T.test("31: strokes undone", Steps.with(SIX, "image() = 6", "stroke() = 0", "stroke() = 0", "back() = 6",
            "row(1) ? 0", "row(3) ? 0", "told(5, 1) ? 0", "told(5, 2) ? 0"));
    }

    private static void backRefuses() {
        T.test("31: no image", "back() ! -3");
        T.test("31: no image, six mowers", Steps.with(SIX, "back() ! -3"));
        T.test("31: the same twice", "image() = 0", "back() ? 0", "back() ? 0");
    }

    private static void backToFewer() {
        T.test("31: who came since is none", "mower(0, 500) = 0", "image() = 1", "mower(0, 600) = 1",
            "mower(0, 700) = 2", "back() = 1", "count(0) ? 1", "told(0, 0) ? 5", "told(1, 0) ! -5000");
        T.test("31: all six are none", "image() = 0", SIX[0], SIX[1], SIX[2], SIX[3], SIX[4], SIX[5], SIX[6],
            "back() = 0", "count(0) ? 0", "told(0, 0) ! -5000", "run(0, 10) ! -2", "taken(0, 0) ! -11");
        T.test("31: their places are free", "image() = 0", "mower(0, 500) = 0", "back() = 0", "mower(11, 500) = 0",
            "told(0, 3) ? 1", "told(0, 4) ? 1");
        T.test("31: their kinds are gone, and how tired they were", "mower(0, 500) = 0", "image() = 1",
            "mower(59, 607) = 1", "put(1, 2, 99) = 0", "back() = 1", "mower(23, 601) = 1", "told(1, 1) ? 1",
            "told(1, 2) ? 0", "told(1, 3) ? 2", "told(1, 4) ? 3");
        T.test("31: the gap where one was since", "image() = 0", "sets(0, 5) = 2", "mower(0, 200) = 0", "back() = 0",
            "row(0) ? 2", "mower(0, 200) ! -2", "mower(0, 500) = 0");
    }

    private static void backKeepsTheRest() {
        T.test("31: sheets stay", "image() = 0", "ints 0: 0 500 10 601", "back() ? 0", "mowersBy(0, 2, 0, 2) = 2");
        T.test("31: the tape stays", "image() = 0", "feed(5, 97, 97, 97, 97, 97) = 5", "back() ? 0", "count(4) ? 5");
        T.test("31: texts stay", "image() = 0", "text: swings 1;tires 1;keeps 1; = 1", "back() ? 0", "count(2) ? 2",
            "count(3) ? 0", "force(1) = 0");
    }
}
