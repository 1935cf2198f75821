/** Each sentence of the terms that names a boundary case of who is beside one, of a clash, of the kinds. */
public final class KindBoundsTest {
    private static final Steps T = new Steps();
    private static final String LOOKS = "text: swings left;tires right;keeps 0; = 1";

    public static void main(String[] args) {
        besideAtTheEnds();
        besideTheGap();
        besideOthers();
        clashes();
        clashesOfTwo();
        swingsOfMowers();
        swingsOfOlds();
        swingsOfLads();
        swingsOfHired();
        swingsOfFathers();
        swingsOfWhistlers();
        tires();
        tiresInAClash();
        keeps();
        T.end();
    }

    private static void besideAtTheEnds() {
        T.test("terms: no place ahead of the first", LOOKS, "force(1) = 0", "mower(0, 5) = 0", "mower(0, 907) = 1",
            "asks(0, 0) ? 5");
        T.test("terms: no place behind the last", LOOKS, "force(1) = 0", "mower(0, 907) = 0", "mower(0, 5) = 1",
            "asks(1, 0) ? 7");
        T.test("terms: the second place sees the first", LOOKS, "force(1) = 0", "mower(0, 107) = 0", "mower(0, 5) = 1",
            "asks(0, 0) ? 5", "asks(1, 1) ? 7");
        T.test("terms: the last place but one sees the last", LOOKS, "force(1) = 0", "mower(0, 807) = 0",
            "mower(0, 905) = 1", "asks(1, 0) ? 5", "asks(0, 1) ? 7");
    }

    private static void besideTheGap() {
        T.test("terms: the gap at the first place", LOOKS, "force(1) = 0", "sets(0, 0) = 2", "sets(1, 4) = 0",
            "mower(0, 108) = 0", "asks(0, 0) ? 4", "asks(1, 0) ? 8");
        T.test("terms: the gap at the last place", LOOKS, "force(1) = 0", "sets(0, 9) = 2", "sets(1, 4) = 0",
            "mower(0, 808) = 0", "asks(1, 0) ? 4", "asks(0, 0) ? 8");
        T.test("terms: the gap two places on", LOOKS, "force(1) = 0", "sets(1, 4) = 0", "mower(0, 408) = 0",
            "mower(0, 9) = 1", "asks(0, 0) ? 8", "asks(1, 1) ? 9");
        T.test("terms: the gap to either side", LOOKS, "force(1) = 0", "sets(1, 4) = 0", "mower(0, 108) = 0",
            "mower(0, 309) = 1", "asks(1, 0) ? 4", "asks(0, 1) ? 4");
    }

    private static void besideOthers() {
        T.test("terms: nobody beside", LOOKS, "force(1) = 0", "mower(0, 508) = 0", "mower(0, 701) = 1",
            "asks(0, 0) ? 8", "asks(1, 0) ? 8");
        T.test("terms: somebody to either side", LOOKS, "force(1) = 0", "mower(0, 508) = 0", "mower(0, 401) = 1",
            "mower(0, 602) = 2", "asks(0, 0) ? 1", "asks(1, 0) ? 2");
        T.test("terms: somebody at swing 0", LOOKS, "force(1) = 0", "mower(0, 508) = 0", "mower(0, 400) = 1",
            "mower(0, 600) = 2", "asks(0, 0) ? 0", "asks(1, 0) ? 0");
        T.test("terms: whoever went is not seen", LOOKS, "force(1) = 0", "mower(0, 508) = 0", "image() = 1",
            "mower(0, 401) = 1", "asks(0, 0) ? 1", "back() = 1", "force(1) = 1", "asks(0, 0) ? 8");
    }

    /** Two beside one another with these swings: whether both clash. */
    private static void two(String title, int left, int right, int clash) {
        T.test("terms, clash: " + title, "mower(0, " + (500 + left) + ") = 0", "mower(0, " + (600 + right) + ") = 1",
            "told(0, 8) ? " + clash, "told(1, 8) ? " + clash, "run(0, 2) ? " + 3 * clash);
    }

    private static void clashes() {
        two("5 less", 0, 5, 0);
        two("6 less", 0, 6, 1);
        two("7 less", 0, 7, 0);
        two("5 more", 11, 6, 0);
        two("6 more", 11, 5, 1);
        two("7 more", 11, 4, 0);
        two("5 more by the round", 3, 10, 0);
        two("alike", 7, 7, 0);
        two("11 more", 11, 0, 0);
        T.test("terms, clash: with the absent to the left", "sets(1, 9) = 0", "mower(0, 303) = 0", "told(0, 8) ? 1",
            "sets(1, 10) = 9", "told(0, 8) ? 0", "sets(1, 8) = 10", "told(0, 8) ? 0");
        T.test("terms, clash: with the absent to the right", "sets(1, 9) = 0", "mower(0, 103) = 0", "told(0, 8) ? 1",
            "sets(1, 10) = 9", "told(0, 8) ? 0", "sets(1, 8) = 10", "told(0, 8) ? 0");
    }

    private static void clashesOfTwo() {
        T.test("terms, clash: with either side counts once", "mower(0, 506) = 0", "mower(0, 400) = 1",
            "mower(0, 600) = 2", "told(0, 7) ? 6", "told(1, 7) ? 6", "told(2, 7) ? 6");
        T.test("terms, clash: nobody beside", "mower(0, 506) = 0", "mower(0, 700) = 1", "told(0, 8) ? 0");
        T.test("terms, clash: not left with right", "mower(0, 503) = 0", "mower(0, 400) = 1", "mower(0, 606) = 2",
            "told(0, 8) ? 0", "told(1, 8) ? 0", "told(2, 8) ? 0");
        T.test("terms, clash: not round the row's ends", "mower(0, 0) = 0", "mower(0, 906) = 1", "told(0, 8) ? 0",
            "told(1, 8) ? 0");
    }

    /** A text's swings, one of that kind and more, with that swing, under that beat and stroke: how far he swings. */
    private static void far(String title, String swings, int kindMore, int swing, int beat, int due) {
        T.test("terms, swings: " + title, "sets(1, " + beat + ") " + (beat == 0 ? "?" : "=") + " 0", "sets(3, 1) = 0",
            "text: swings " + swings + ";tires 0;keeps 0; = 1", "force(1) = 0",
            "mower(" + kindMore + ", " + (500 + swing) + ") = 0", "told(0, 6) ? " + due);
    }

    private static void swingsOfMowers() {
        far("a mower, nothing", "0", 9, 3, 3, 0);
        far("a mower at most", "11", 9, 3, 3, 11);
        far("a mower beyond", "12", 9, 3, 3, 11);
        far("a mower below", "-1", 9, 3, 3, 0);
    }

    private static void swingsOfOlds() {
        far("an old one in step", "4", 10, 7, 7, 4);
        far("an old one out of step by one less", "4", 10, 6, 7, 5);
        far("an old one out of step by one more", "4", 10, 8, 7, 5);
        far("an old one to the most", "10", 10, 0, 7, 11);
        far("an old one beyond the most", "11", 10, 0, 7, 11);
        far("an old one above what is below", "-9", 10, 0, 7, 1);
        far("an old one where the text keeps, not he", "4", 10, 0, 7, 5);
    }

    private static void swingsOfLads() {
        int[] more = {0, 0, 0, 1, 1, 1, 2, 2, 2, 3};
        for (int i = 0; i < 10; i++) {
            far("a lad of more " + i, "4", 20 + i, 7, 7, 4 + more[i]);
        }
        far("a lad to the most", "8", 29, 7, 7, 11);
        far("a lad beyond the most", "9", 29, 7, 7, 11);
        far("a lad far beyond the most", "11", 29, 7, 7, 11);
        far("a lad out of step", "4", 20, 0, 7, 4);
    }

    private static void swingsOfHired() {
        far("a hired one, nothing", "0", 40, 7, 7, 0);
        far("a hired one, twice a lad's", "4", 43, 7, 7, 10);
        far("a hired one, twice his more", "0", 49, 7, 7, 6);
        far("a hired one just within", "5", 42, 7, 7, 10);
        far("a hired one beyond", "5", 43, 7, 7, 11);
        far("a hired one far beyond", "11", 49, 7, 7, 11);
        far("a hired one where he keeps", "1", 47, 7, 0, 6);
        far("a hired one out of step", "1", 40, 7, 0, 2);
    }

    private static void swingsOfFathers() {
        far("a father where he keeps", "4", 30, 6, 0, 4);
        far("a father in step", "4", 30, 0, 0, 5);
        far("a father by his more", "4", 39, 6, 0, 4);
        far("a father to the most", "10", 30, 0, 0, 11);
        far("a father beyond the most", "11", 30, 0, 0, 11);
        far("a father where he keeps, round", "4", 30, 5, 11, 4);
        far("a father where he keeps, just round", "4", 30, 11, 5, 4);
    }

    private static void whistles(int stroke, int swing, int keeps, int due) {
        T.test("terms, swings: a whistler from " + swing + " to " + keeps + " at stroke " + stroke,
            "sets(3, " + stroke + ") " + (stroke == 0 ? "?" : "=") + " 0",
            "text: swings 7;tires 0;keeps " + keeps + "; = 1", "force(1) = 0", "mower(59, " + (500 + swing) + ") = 0",
            "told(0, 6) ? " + due);
    }

    private static void swingsOfWhistlers() {
        for (int stroke : new int[] {0, 5, 10, 990, 995}) {
            whistles(stroke, 3, 7, 0);
        }
        for (int stroke : new int[] {1, 4, 6, 9, 994, 996, 999}) {
            whistles(stroke, 3, 7, 4);
        }
        whistles(1, 3, 3, 0);
        whistles(1, 3, 4, 1);
        whistles(1, 3, 2, 11);
        whistles(1, 11, 0, 1);
        whistles(1, 0, 11, 11);
        whistles(1, 11, 10, 11);
        whistles(1, 0, 0, 0);
        whistles(1, 11, 11, 0);
        whistles(1, 5, 99, 6);
        String[] whistler = {"text: swings 0;tires 0;keeps swing + 1; = 1", "force(1) = 0", "mower(50, 500) = 0",
            "sets(3, 999) = 0"};
        T.test("terms, swings: a whistler at stroke 999", Steps.with(whistler, "run(1, 10) ? 1"));
        T.test("terms, swings: a whistler at stroke 1000, in thought", Steps.with(whistler, "run(2, 10) ? 1"));
        T.test("terms, swings: a whistler at stroke 1001, in thought", Steps.with(whistler, "run(3, 10) ? 2"));
        T.test("terms, swings: a whistler at stroke 1004, in thought", Steps.with(whistler, "run(6, 10) ? 5"));
        T.test("terms, swings: a whistler at stroke 1005, in thought", Steps.with(whistler, "run(7, 10) ? 5"));
        T.test("terms, swings: a whistler tired by 99", "sets(3, 1) = 0", "sets(1, 5) = 0", "mower(50, 500) = 0",
            "put(0, 2, 99) = 0", "run(1, 10) ? 0", "run(2, 10) ? 8");
    }

    private static void tiring(String title, String tires, int kindMore, int due) {
        T.test("terms, tires: " + title, "text: swings 0;tires " + tires + ";keeps 0; = 1", "force(1) = 0",
            "mower(" + kindMore + ", 500) = 0", "told(0, 7) ? " + due);
    }

    private static void tires() {
        tiring("a mower at most", "100", 9, 99);
        tiring("a mower at least", "-100", 9, -99);
        tiring("a mower not at all", "0", 9, 0);
        tiring("an old one as a mower", "7", 19, 7);
        tiring("a lad twice", "7", 29, 14);
        tiring("a lad at most", "100", 29, 198);
        tiring("a lad at least", "-100", 29, -198);
        tiring("a father of no more", "7", 30, 7);
        tiring("a father of most more", "7", 39, -2);
        tiring("a father at least", "-100", 39, -108);
        tiring("a hired one as a lad", "7", 49, 14);
        tiring("a whistler", "7", 59, -1);
        tiring("a whistler, whatever the text", "-100", 59, -1);
    }

    private static void clashing(String title, String tires, int kindMore, int due) {
        T.test("terms, tires: " + title, "text: swings 0;tires " + tires + ";keeps 0; = 1", "force(1) = 0",
            "mower(" + kindMore + ", 506) = 0", "mower(0, 600) = 1", "told(0, 8) ? 1", "told(0, 7) ? " + due);
    }

    private static void tiresInAClash() {
        clashing("a mower in a clash", "7", 9, 12);
        clashing("a mower in a clash, above the text's most", "99", 9, 104);
        clashing("a mower in a clash, below 0", "-7", 9, -2);
        clashing("an old one in a clash", "7", 19, 12);
        clashing("a lad in a clash", "7", 29, 24);
        clashing("a lad in a clash, at most", "99", 29, 208);
        clashing("a father in a clash", "7", 39, 3);
        clashing("a hired one in a clash", "7", 49, 24);
        clashing("a whistler in a clash", "7", 59, -1);
    }

    private static void keeping(String title, int kindMore, int beat, int due) {
        T.test("terms, keeps: " + title, "sets(1, " + beat + ") " + (beat == 0 ? "?" : "=") + " 0",
            "text: swings 0;tires 0;keeps 13; = 1", "force(1) = 0", "mower(" + kindMore + ", 500) = 0",
            "told(0, 5) ? " + due);
    }

    private static void keeps() {
        keeping("a mower as the text", 9, 4, 11);
        keeping("an old one, beat 0", 19, 0, 0);
        keeping("an old one, beat 11", 19, 11, 11);
        keeping("a lad as the text", 29, 4, 11);
        keeping("a father, beat 0", 39, 0, 6);
        keeping("a father, beat 5", 39, 5, 11);
        keeping("a father, beat 6", 39, 6, 0);
        keeping("a father, beat 11", 39, 11, 5);
        keeping("a hired one, no more", 40, 4, 0);
        keeping("a hired one, most more", 49, 4, 9);
        keeping("a whistler as the text", 59, 4, 11);
    }
}
