/** Each sentence of promises 21 to 27 that names a boundary case: told strokes. */
public final class ToldBoundsTest {
    private static final Steps T = new Steps();
    private static final String[] BAD_SHEETS = {"-1", "4", "MIN", "MAX"};
    private static final String[] BAD_MOWERS = {"-1", "6", "MIN", "MAX"};
    /** By each stroke one swings 1 on, tires by nothing. */
    private static final String[] LAW = {"text: swings 1;tires 0;keeps 0; = 1", "force(1) = 0"};
    private static final String[] ONE = Steps.with(LAW, "mower(0, 500) = 0");
    private static final String[] SIX = {"sets(0, 9) = 2", "mower(0, 0) = 0", "mower(0, 101) = 1", "mower(0, 202) = 2",
        "mower(0, 303) = 3", "mower(0, 404) = 4", "mower(0, 505) = 5"};
    private static final String TWENTY = "ints 0: 1 2 3 4 5 6 7 8 9 10 11 0 1 2 3 4 5 6 7 8";

    public static void main(String[] args) {
        sheetsAreRefused();
        mowersAreRefused();
        whatsAreRefused();
        judgeNumbers();
        judgeWidths();
        kinds();
        mores();
        places();
        swingsAndBeats();
        paces();
        weary();
        whose();
        laws();
        films();
        filmRefuses();
        T.end();
    }

    /** The calls that ask of a sheet, of a mower, and of one thing more. */
    private static String[] calls(String s, String m, String what, String answer) {
        String of = "(" + s + ", " + m;
        return new String[] {"judge" + of + ")" + answer, "kinds" + of + ", " + what + ")" + answer,
            "states" + of + ", " + what + ")" + answer, "weary" + of + ", " + what + ")" + answer,
            "laws" + of + ")" + answer};
    }

    private static void sheetsAreRefused() {
        for (String s : BAD_SHEETS) {
            T.test("21 to 26: no sheet", Steps.with(ONE, calls(s, "0", "0", " ! -2")));
            T.test("25: no sheet", Steps.with(ONE, "whose(" + s + ") ! -2"));
            T.test("21 to 26: no sheet ahead of none such, what", calls(s, "0", "9", " ! -2"));
        }
        for (int s = 0; s < 4; s++) {
            T.test("21 to 26: a missing sheet", Steps.with(ONE, calls("" + s, "0", "0", " ! -11")));
            T.test("25: a missing sheet", Steps.with(ONE, "whose(" + s + ") ! -11"));
            T.test("21 to 26: a missing sheet ahead of none such, what", calls("" + s, "0", "9", " ! -11"));
            T.test("21: a sheet", Steps.with(ONE, "ints " + s + ": 1", "judge(" + s + ", 0) ? -1", "whose(" + s + ") ? 1"));
        }
        for (int n : new int[] {21, 40}) {
            String[] sheet = {"sheet(0, 0, " + n + ") = 1"};
            T.test("21 to 26: it tells " + n, Steps.with(Steps.with(ONE, sheet), calls("0", "0", "0", " ! -2")));
            T.test("25: it tells " + n, Steps.with(Steps.with(ONE, sheet), "whose(0) ! -2"));
            T.test("21 to 26: it tells " + n + ", ahead of none such", Steps.with(sheet, calls("0", "0", "9", " ! -2")));
        }
        T.test("21 to 26: missing again", Steps.with(Steps.with(ONE, "ints 0: 1", "sheet(0, -1, 0) = 1"),
            calls("0", "0", "0", " ! -11")));
    }

    private static void mowersAreRefused() {
        T.test("21 to 26: nobody", Steps.with(new String[] {"ints 0: 1"}, calls("0", "0", "0", " ! -5")));
        T.test("21 to 26: nobody, nothing told", Steps.with(new String[] {"ints 0: "}, calls("0", "0", "0", " ! -5")));
        for (String m : BAD_MOWERS) {
            T.test("21 to 26: none such", Steps.with(Steps.with(SIX, "ints 0: 1"), calls("0", m, "0", " ! -5")));
        }
        T.test("21 to 26: one more than there are", Steps.with(Steps.with(ONE, "ints 0: 1"),
            calls("0", "1", "0", " ! -5")));
        T.test("21 to 26: none such ahead of what", Steps.with(Steps.with(ONE, "ints 0: 1"),
            calls("0", "1", "9", " ! -5")));
    }

    private static void whatsAreRefused() {
        for (String what : new String[] {"-1", "2", "MIN", "MAX"}) {
            T.test("22: sort", Steps.with(ONE, "ints 0: 1", "kinds(0, 0, " + what + ") ! -7"));
            T.test("24: what", Steps.with(ONE, "ints 0: 1", "weary(0, 0, " + what + ") ! -7"));
        }
        for (String what : new String[] {"-1", "4", "MIN", "MAX"}) {
            T.test("23: what", Steps.with(ONE, "ints 0: 1", "states(0, 0, " + what + ") ! -7"));
        }
    }

    private static void judgeNumbers() {
        T.test("21: it tells nothing", Steps.with(ONE, "ints 0: ", "judge(0, 0) ? -1"));
        T.test("21: it tells one", Steps.with(ONE, "ints 0: 1", "judge(0, 0) ? -1", "cell(0, 0, 2) = 1",
            "judge(0, 0) ? 0", "cell(0, 0, 0) = 1", "judge(0, 0) ? 0"));
        T.test("21: it tells twenty", Steps.with(ONE, TWENTY, "judge(0, 0) ? -1"));
        T.test("21: the last of twenty is otherwise", Steps.with(ONE, TWENTY, "cell(0, 19, 9) = 1", "judge(0, 0) ? 19"));
        T.test("21: the first of twenty is otherwise", Steps.with(ONE, TWENTY, "cell(0, 0, 0) = 1", "judge(0, 0) ? 0"));
        T.test("21: the first of two that are", Steps.with(ONE, TWENTY, "cell(0, 18, 0) = 1", "cell(0, 3, 0) = 1",
            "judge(0, 0) ? 3"));
        T.test("21: swing 12 is not 0, round or not", Steps.with(ONE, "put(0, 1, 11) = 0", "ints 0: 12",
            "judge(0, 0) ? 0", "ints 0: 0", "judge(0, 0) ? -1"));
        T.test("21: the last of six", Steps.with(SIX, "force(0) ? 0", "ints 0: 8", "judge(0, 5) ? -1", "judge(0, 4) ? 0"));
        T.test("21: beyond stroke 999", Steps.with(ONE, "sets(3, 999) = 0", TWENTY, "judge(0, 0) ? -1"));
        T.test("21: tired by 99 as it goes on", "text: swings 1;tires 1;keeps 0; = 1", "force(1) = 0",
            "mower(0, 500) = 0", "put(0, 2, 97) = 0", "ints 0: 1 2 2 2", "judge(0, 0) ? -1");
    }

    private static void judgeWidths() {
        T.test("21: bytes", Steps.with(ONE, "bytes 0: 1 2 3", "judge(0, 0) ? -1"));
        T.test("21: bytes, their lowest 8 bits", Steps.with(ONE, "bytes 0: 257 -254 515", "judge(0, 0) ? -1"));
        T.test("21: shorts", Steps.with(ONE, "shorts 0: 1 2 3", "judge(0, 0) ? -1"));
        T.test("21: shorts, their lowest 16 bits", Steps.with(ONE, "shorts 0: 65537 -65534 131075", "judge(0, 0) ? -1"));
        T.test("21: shorts, more than 8 bits", Steps.with(ONE, "shorts 0: 257", "judge(0, 0) ? 0"));
        T.test("21: ints, more than 16 bits", Steps.with(ONE, "ints 0: 65537", "judge(0, 0) ? 0"));
    }

    private static void kinds() {
        String[] far = {"sets(3, 1) = 0", "text: swings 3;tires 0;keeps 5; = 1", "force(1) = 0", "mower(3, 500) = 0"};
        T.test("22: nothing told, all kinds", Steps.with(far, "ints 0: ", "kinds(0, 0, 0) ? 63"));
        T.test("22: no kind", Steps.with(far, "ints 0: 11", "kinds(0, 0, 0) ? 0"));
        T.test("22: the first kind (and the second, in step)", Steps.with(far, "ints 0: 3", "kinds(0, 0, 0) ? 3"));
        T.test("22: the last kind alone", Steps.with(far, "ints 0: 5", "kinds(0, 0, 0) ? 32"));
        T.test("22: the first kind alone", Steps.with(far, "put(0, 1, 1) = 0", "ints 0: 4", "kinds(0, 0, 0) ? 1"));
        T.test("22: of the last one of six", Steps.with(SIX, "ints 0: ", "kinds(0, 5, 0) ? 63"));
    }

    private static void mores() {
        String[] lad = {"sets(3, 1) = 0", "text: swings 3;tires 0;keeps 5; = 1", "force(1) = 0", "mower(24, 500) = 0"};
        T.test("22: nothing told, all more", Steps.with(lad, "ints 0: ", "kinds(0, 0, 1) ? 1023"));
        T.test("22: no more", Steps.with(lad, "ints 0: 2", "kinds(0, 0, 1) ? 0", "ints 0: 7", "kinds(0, 0, 1) ? 0"));
        T.test("22: more 0 to 2", Steps.with(lad, "ints 0: 3", "kinds(0, 0, 1) ? 7"));
        T.test("22: more 9 alone", Steps.with(lad, "ints 0: 6", "kinds(0, 0, 1) ? 512"));
        T.test("22: more by the text", "text: swings more;tires 0;keeps 5; = 1", "force(1) = 0", "mower(4, 500) = 0",
            "ints 0: 0", "kinds(0, 0, 1) ? 1", "ints 0: 9", "kinds(0, 0, 1) ? 512", "ints 0: 10", "kinds(0, 0, 1) ? 0");
    }

    private static void places() {
        String[] law = {"text: swings left;tires 0;keeps 0; = 1", "force(1) = 0", "sets(1, 4) = 0", "sets(2, 0) = 3"};
        T.test("23: nothing told, all that are free and one's own", Steps.with(law, "mower(0, 501) = 0",
            "mower(0, 701) = 1", "ints 0: ", "states(0, 0, 0) ? 891", "states(0, 1, 0) ? 987"));
        T.test("23: of six", Steps.with(SIX, "ints 0: ", "states(0, 0, 0) ? 449", "states(0, 5, 0) ? 480"));
        T.test("23: the last place alone", Steps.with(law, "sets(0, 8) = 2", "mower(0, 501) = 0", "ints 0: 5",
            "states(0, 0, 0) ? 512"));
        T.test("23: the first place alone", "text: swings right;tires 0;keeps 0; = 1", "force(1) = 0", "sets(1, 4) = 0",
            "sets(2, 0) = 3", "sets(0, 1) = 2", "mower(0, 501) = 0", "ints 0: 5", "states(0, 0, 0) ? 1");
        T.test("23: one's own alone", Steps.with(law, "mower(0, 301) = 0", "ints 0: 5", "states(0, 0, 0) ? 8"));
        T.test("23: no place", Steps.with(law, "mower(0, 501) = 0", "ints 0: 6", "states(0, 0, 0) ? 0"));
        T.test("23: the gap is no place", Steps.with(law, "mower(0, 501) = 0", "ints 0: 2", "states(0, 0, 0) ? 1011"));
    }

    private static void swingsAndBeats() {
        T.test("23: nothing told, all swings", Steps.with(ONE, "ints 0: ", "states(0, 0, 1) ? 4095"));
        T.test("23: swing 0 alone", Steps.with(ONE, "ints 0: 1", "states(0, 0, 1) ? 1"));
        T.test("23: swing 11 alone, round", Steps.with(ONE, "ints 0: 0", "states(0, 0, 1) ? 2048"));
        T.test("23: swing 10 alone", Steps.with(ONE, "ints 0: 11", "states(0, 0, 1) ? 1024"));
        T.test("23: no swing", Steps.with(ONE, "ints 0: 12", "states(0, 0, 1) ? 0"));
        String[] beats = {"text: swings beat;tires 0;keeps 0; = 1", "force(1) = 0", "mower(0, 500) = 0"};
        T.test("23: nothing told, all beats", Steps.with(beats, "ints 0: ", "states(0, 0, 2) ? 4095"));
        T.test("23: beat 0 alone", Steps.with(beats, "ints 0: 0", "states(0, 0, 2) ? 1"));
        T.test("23: beat 11 alone", Steps.with(beats, "ints 0: 11", "states(0, 0, 2) ? 2048"));
        T.test("23: no beat", Steps.with(beats, "ints 0: 12", "states(0, 0, 2) ? 0"));
        T.test("23: beat 9, by its round", Steps.with(beats, "ints 0: 9 9 0", "states(0, 0, 2) ? 512"));
    }

    private static void paces() {
        String[] beats = {"text: swings beat;tires 0;keeps 0; = 1", "force(1) = 0", "mower(0, 500) = 0"};
        T.test("23: nothing told, all paces", Steps.with(beats, "ints 0: ", "states(0, 0, 3) ? 4095"));
        T.test("23: all paces for the first stroke", Steps.with(beats, "ints 0: 0", "states(0, 0, 3) ? 4095"));
        T.test("23: pace 0 alone", Steps.with(beats, "ints 0: 0 0", "states(0, 0, 3) ? 1"));
        T.test("23: pace 11 alone", Steps.with(beats, "ints 0: 0 11", "states(0, 0, 3) ? 2048"));
        T.test("23: no pace", Steps.with(beats, "ints 0: 1 1", "states(0, 0, 3) ? 0"));
    }

    private static void weary() {
        T.test("24: nothing told, all", Steps.with(ONE, "ints 0: ", "weary(0, 0, 0) ? 100", "weary(0, 0, 1) ? 0"));
        T.test("24: all but 99", Steps.with(ONE, "ints 0: 1", "weary(0, 0, 0) ? 99", "weary(0, 0, 1) ? 0"));
        T.test("24: 99 alone", Steps.with(ONE, "ints 0: 0", "weary(0, 0, 0) ? 1", "weary(0, 0, 1) ? 99"));
        T.test("24: none", Steps.with(ONE, "ints 0: 2", "weary(0, 0, 0) ? 0", "weary(0, 0, 1) ? -1"));
        T.test("24: 0, and 99 by which one stands", "text: swings tired;tires 0;keeps 0; = 1", "force(1) = 0", "mower(0, 500) = 0",
            "put(0, 2, 50) = 0", "ints 0: 0 0 0", "weary(0, 0, 0) ? 2", "weary(0, 0, 1) ? 0");
        T.test("24: 98 alone", "text: swings tired = 98;tires 0;keeps 0; = 1", "force(1) = 0", "mower(0, 500) = 0",
            "ints 0: 1", "weary(0, 0, 0) ? 1", "weary(0, 0, 1) ? 98");
        T.test("24: the last of six", Steps.with(SIX, "ints 0: 5", "weary(0, 5, 0) ? 1", "weary(0, 5, 1) ? 99"));
    }

    private static void whose() {
        T.test("25: nobody", "ints 0: ", "whose(0) ? 0", "ints 0: 1", "whose(0) ? 0");
        T.test("25: nothing told, all six", Steps.with(SIX, "ints 0: ", "whose(0) ? 63"));
        T.test("25: the first alone", Steps.with(LAW, Steps.with(SIX, "ints 0: 1", "whose(0) ? 1")));
        T.test("25: the last alone", Steps.with(LAW, Steps.with(SIX, "ints 0: 6", "whose(0) ? 32")));
        T.test("25: none", Steps.with(LAW, Steps.with(SIX, "ints 0: 0", "whose(0) ? 0")));
        T.test("25: twenty told", Steps.with(ONE, TWENTY, "whose(0) ? 1", "cell(0, 19, 7) = 1", "whose(0) ? 0"));
        T.test("25: not whose who isn't any more", "image() = 0", "mower(0, 500) = 0", "ints 0: ", "whose(0) ? 1",
            "back() = 0", "whose(0) ? 0");
    }

    private static void laws() {
        String[] six = {"text: swings 4;tires 0;keeps 0; = 1", "text: swings 5;tires 0;keeps 0; = 2",
            "text: swings 6;tires 0;keeps 0; = 3", "text: swings 7;tires 0;keeps 0; = 4",
            "text: swings 8;tires 0;keeps 0; = 5", "mower(0, 501) = 0"};
        T.test("26: one text, or none", "mower(0, 501) = 0", "ints 0: 4", "laws(0, 0) ? 1", "ints 0: 5",
            "laws(0, 0) ? 0");
        T.test("26: nothing told, one text", "mower(0, 501) = 0", "ints 0: ", "laws(0, 0) ? 1");
        T.test("26: nothing told, six texts", Steps.with(six, "ints 0: ", "laws(0, 0) ? 63"));
        T.test("26: the first of six", Steps.with(six, "ints 0: 4", "laws(0, 0) ? 1"));
        T.test("26: the last of six", Steps.with(six, "ints 0: 9", "laws(0, 0) ? 32"));
        T.test("26: none of six", Steps.with(six, "ints 0: 10", "laws(0, 0) ? 0"));
        T.test("26: whatever the law is", Steps.with(six, "force(5) = 0", "ints 0: 4", "laws(0, 0) ? 1"));
        T.test("26: twenty told", Steps.with(ONE, TWENTY, "laws(0, 0) ? 2"));
    }

    private static void films() {
        T.test("27: none", Steps.with(ONE, "film(0, 0, 0) = 0", "judge(0, 0) ? -1", "cell(0, 0, 0) ! -12"));
        T.test("27: one", Steps.with(ONE, "film(0, 0, 1) = 1", "judge(0, 0) ? -1", "cell(0, 1, 0) ! -12",
            "put(0, 1, 1) = 0", "judge(0, 0) ? 0"));
        T.test("27: twenty", Steps.with(ONE, "film(0, 0, 20) = 20", "judge(0, 0) ? -1", "cell(0, 20, 0) ! -12",
            "cell(0, 19, 7) = 1", "judge(0, 0) ? 19"));
        T.test("27: bytes in place of ints", Steps.with(ONE, "ints 0: 7 7 7 7 7", "film(0, 0, 2) = 2",
            "mowersBy(0, 0, 0, 0) ? 0", "mowersBy(0, 2, 0, 0) ! -13", "judge(0, 0) ? -1", "cell(0, 2, 0) ! -12"));
        T.test("27: in place of forty", Steps.with(ONE, "sheet(0, 0, 40) = 1", "film(0, 0, 3) = 3", "judge(0, 0) ? -1",
            "cell(0, 3, 0) ! -12"));
        T.test("27: the row stays", Steps.with(ONE, "film(3, 0, 20) = 20", "told(0, 1) ? 0", "row(1) ? 0", "row(3) ? 0",
            "row(4) ? 0"));
        T.test("27: the last sheet, of the last of six", Steps.with(SIX, "film(3, 5, 20) = 20", "judge(3, 5) ? -1",
            "judge(3, 0) ? 0"));
        T.test("27: beyond stroke 999", Steps.with(ONE, "sets(3, 999) = 0", "film(0, 0, 20) = 20", TWENTY.replace("ints 0",
            "bytes 1"), "judge(0, 0) ? -1", "judge(1, 0) ? -1", "row(3) ? 999"));
        T.test("27: the same again changes nothing", Steps.with(ONE, "film(0, 0, 20) = 20", "film(0, 0, 20) ? 20"));
    }

    private static void filmRefuses() {
        for (String s : BAD_SHEETS) {
            T.test("27: no sheet", Steps.with(ONE, "film(" + s + ", 0, 1) ! -2"));
            T.test("27: no sheet ahead of none such, n", "film(" + s + ", 0, 21) ! -2");
        }
        T.test("27: nobody", "film(0, 0, 1) ! -5", "film(0, 0, 0) ! -5");
        for (String m : BAD_MOWERS) {
            T.test("27: none such", Steps.with(SIX, "ints 0: 0 100 0 600", "film(0, " + m + ", 1) ! -5"));
        }
        for (String n : new String[] {"-1", "21", "MIN", "MAX"}) {
            T.test("27: n, the sheet missing", Steps.with(ONE, "film(0, 0, " + n + ") ! -7"));
            T.test("27: n, the sheet stays", Steps.with(ONE, "ints 0: 1 2 3", "film(0, 0, " + n + ") ! -7",
                "judge(0, 0) ? -1"));
        }
        T.test("27: none such ahead of n", Steps.with(ONE, "film(0, 1, 21) ! -5"));
    }
}
