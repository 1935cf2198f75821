import java.util.ArrayList;
import java.util.List;

/** Each call that changes something changes that, and nothing besides: neither the row, nor texts, sheets, the image. */
public final class ChangeTest {
    private static final Steps T = new Steps();
    /** Three texts, two mowers, an image; a tape that lacks its last sign; three sheets. */
    private static final String[] KEPT = {"text: swings 1;tires 2;keeps 3; = 1", "text: swings 4;tires 5;keeps 6; = 2",
        "tape: swings 7;tires 8;keeps 9", "mower(13, 407) = 0", "mower(25, 608) = 1", "put(0, 2, 20) = 0",
        "put(1, 2, 30) = 0", "sets(0, 9) = 2", "sets(1, 4) = 0", "sets(2, 5) = 3", "sets(3, 6) = 0", "sets(4, 70) = 0",
        "force(1) = 0", "image() = 2", "bytes 0: 1 109 12 1", "shorts 1: 44 305 53 711", "ints 2: 26 311"};
    /** All that the image keeps is otherwise now, but for how many mowers there are. */
    private static final String[] OTHERWISE = Steps.with(KEPT, "put(0, 0, 5) = 4", "put(0, 1, 3) = 7",
        "put(0, 2, 21) = 20", "put(1, 2, 31) = 30", "sets(0, 8) = 9", "sets(1, 2) = 4", "sets(2, 1) = 5", "sets(3, 8) = 6",
        "sets(4, 91) = 70", "force(2) = 1");
    /** One mower came since. */
    private static final String[] RICH = Steps.with(OTHERWISE, "mower(31, 301) = 2", "put(2, 2, 41) = 0");
    private static final String NOBODY = " is -5000 -5000 -5000 -5000 -5000";

    public static void main(String[] args) {
        marks();
        texts();
        mowers();
        strokes();
        images();
        films();
        sheets();
        othersStay();
        cells();
        asked();
        T.end();
    }

    private static void marks() {
        T.changes("3: the gap", RICH, "sets(0, 7) = 8", "now: row 0 is 7");
        T.changes("3: the beat", RICH, "sets(1, 7) = 2", "now: row 1 is 7", "text 0 is 3 1 7");
        T.changes("3: the pace", RICH, "sets(2, 7) = 1", "now: row 2 is 7");
        T.changes("3: the stroke", RICH, "sets(3, 7) = 8", "now: row 3 is 7");
        T.changes("3: cut", RICH, "sets(4, 7) = 91", "now: row 4 is 7");
    }

    private static void texts() {
        T.changes("5: the tape", RICH, "feed(1, 59, 0, 0, 0, 0) = 25", "now: count 4 is 25", "the tape read is 3",
            "the tape is 7 8 9", "image: count 2 is 4");
        T.changes("6: by a fault the tape is empty", RICH, "text() = -124", "now: count 4 is 0", "the tape read is -100");
        T.changes("6: one text more, the tape is empty", Steps.with(RICH, "tape: ;"), "text() = 3", "now: count 2 is 4",
            "now: count 4 is 0", "text 3 is 7 8 9", "the tape read is -100", "the tape is none");
        T.changes("7: the law", RICH, "force(0) = 2", "now: count 3 is 0");
    }

    private static void mowers() {
        T.changes("9: one more", RICH, "mower(42, 900) = 3", "now: count 0 is 4", "now: mower 3 is 9 0 0 4 2");
        T.changes("10: the place of the first", RICH, "put(0, 0, 9) = 5", "now: mower 0 is 9 3 21 1 3");
        T.changes("10: the place of another", RICH, "put(1, 0, 9) = 6", "now: mower 1 is 9 8 31 2 5");
        T.changes("10: swing of one, further on", RICH, "put(1, 1, 9) = 8", "now: mower 1 is 6 9 31 2 5");
        T.changes("10: swing of one, back", RICH, "put(1, 1, 7) = 8", "now: mower 1 is 6 7 31 2 5");
        T.changes("10: swing of the last", RICH, "put(2, 1, 0) = 1", "now: mower 2 is 3 0 41 3 1");
        T.changes("10: tired", RICH, "put(1, 2, 0) = 31", "now: mower 1 is 6 8 0 2 5");
        T.changes("35: as many more as came", RICH, "mowersBy(1, 1, 0, 2) = 1", "now: count 0 is 4",
            "now: mower 3 is 7 11 0 5 3");
        T.changes("35: as many more as stood ahead", RICH, "mowersBy(1, 1, 2, 2) = -12", "now: count 0 is 4",
            "now: mower 3 is 7 11 0 5 3");
    }

    /** An old one 3 is at swing 3, a lad 5 at 8, a father 1 at 1. */
    private static void strokes() {
        T.changes("12: a stroke", RICH, "stroke() = 1", "now: row 1 is 3", "now: row 3 is 9", "now: row 4 is 92",
            "now: mower 0 is 5 8 26 1 3", "now: mower 1 is 6 1 41 2 5", "now: mower 2 is 3 6 45 3 1", "text 0 is 3 1 3");
    }

    private static void images() {
        T.changes("30: the image", OTHERWISE, "image() = 2", "image: row 0 is 8", "image: row 1 is 2", "image: row 2 is 1",
            "image: count 3 is 2", "image: row 3 is 8", "image: row 4 is 91", "image: mower 0 is 5 3 21 1 3",
            "image: mower 1 is 6 8 31 2 5");
        T.changes("31: the row", RICH, "back() = 2", "now: count 0 is 2", "now: row 0 is 9", "now: row 1 is 4",
            "now: row 2 is 5", "now: count 3 is 1", "now: row 3 is 6", "now: row 4 is 70", "now: mower 0 is 4 7 20 1 3",
            "now: mower 1 is 6 8 30 2 5", "now: mower 2" + NOBODY, "text 0 is 3 1 4");
    }

    /** The mowers swing as by strokes(): the first from 3 to 8, 1, 6, the second from 8 to 1, 6, 11, 4. */
    private static void films() {
        T.changes("27: of bytes", RICH, "film(0, 0, 3) = 3", "size of sheet 0 is 3", "by sheet 0: mower 2 is 0 1 0 0 8",
            "by sheet 0: mower 3" + NOBODY);
        T.changes("27: of ints", RICH, "film(2, 1, 4) = 4", "sheet 2 by sorts is 0 -13 -13", "size of sheet 2 is 4",
            "by sheet 2: mower 2 is 0 6 0 0 1");
        T.changes("27: of a missing one", RICH, "film(3, 2, 2) = 2", "sheet 3 by sorts is 0 -13 -13",
            "size of sheet 3 is 2", "by sheet 3: mower 2 is 0 11 0 0 6");
    }

    private static void sheets() {
        T.changes("32: of a missing one", RICH, "sheet(3, 2, 5) = 1", "sheet 3 by sorts is -13 -13 0",
            "size of sheet 3 is 5", "by sheet 3: mower 2 is 0 0 0 0 0");
        T.changes("32: of another sort", RICH, "sheet(0, 1, 4) = 1", "sheet 0 by sorts is -13 0 -13",
            "by sheet 0: mower 2 is 0 0 0 0 0", "by sheet 0: mower 3" + NOBODY);
        T.changes("32: missing", RICH, "sheet(1, -1, 0) = 1", "sheet 1 by sorts is -11 -11 -11", "size of sheet 1 is -1",
            "by sheet 1: mower 2" + NOBODY, "by sheet 1: mower 3" + NOBODY);
    }

    /** Of four sheets each one is changed alone. */
    private static void othersStay() {
        String[] four = Steps.with(RICH, "ints 3: 8 111 7 505");
        for (int s = 0; s < 4; s++) {
            String size = "size of sheet " + s + " is ";
            String sorts = "sheet " + s + " by sorts is ";
            String[] gone = {"by sheet " + s + ": mower 2" + NOBODY, "by sheet " + s + ": mower 3" + NOBODY};
            String[] lines = s == 2 ? new String[] {gone[0]} : gone;
            T.changes("32: missing alone", four, "sheet(" + s + ", -1, 0) = 1",
                Steps.with(new String[] {sorts + "-11 -11 -11", size + "-1"}, lines));
            T.changes("27: filmed alone", four, "film(" + s + ", 0, 0) = 0",
                Steps.with(s == 0 ? new String[] {size + "0"} : new String[] {sorts + "0 -13 -13", size + "0"}, lines));
            T.changes("33: its cell alone", four, "cell(" + s + ", 0, 60) = 1", s == 2 ? new String[] {gone[0]} :
                new String[] {"by sheet " + s + ": mower 2 is " + new String[] {"0 1 0 1 2", "7 11 0 5 3", "", "5 5 0 0 7"}[s],
                    gone[1]});
        }
    }

    private static void cells() {
        T.changes("33: one number", RICH, "cell(1, 1, 5) = 1", "by sheet 1: mower 2 is 0 5 0 4 4");
        T.changes("33: the first number", RICH, "cell(2, 0, 9) = 1", "by sheet 2: mower 2 is 3 11 0 0 9");
        T.changes("33: the last number", RICH, "cell(0, 3, 11) = 1", "by sheet 0: mower 3 is 0 11 0 1 2");
        T.changes("34: within one", RICH, "copy(1, 3, 1, 1, 1) = 1", "by sheet 1: mower 2 is 7 11 0 4 4",
            "by sheet 1: mower 3" + NOBODY);
        T.changes("34: to another one", Steps.with(RICH, "ints 3: 0 0 0 0"), "copy(2, 0, 3, 2, 2) = 2",
            "by sheet 3: mower 3 is 3 11 0 2 6");
    }

    /** By whatever is asked of the row, of its strokes, of sheets, nothing changes. */
    private static void asked() {
        List<String> calls = new ArrayList<>();
        for (int what = 0; what < 5; what++) {
            add(calls, "count(" + what + ")", "row(" + what + ")");
        }
        for (int n : new int[] {0, 1, 6, 33, 40, 60}) {
            for (int what : new int[] {0, 1, 2, 3, 10, 11, 12, 20, 21, 22}) {
                add(calls, "run(" + n + ", " + what + ")");
            }
            for (int what = 0; what < 2; what++) {
                String rest = n + ", " + what + ")";
                add(calls, "gap(" + rest, "tempo(" + rest, "order(" + rest, "mean(" + rest, "drawn(" + rest);
                add(calls, "often(0, " + rest, "often(2, " + rest, "stands(0, " + rest, "stands(2, " + rest);
                add(calls, "odds(" + n + ", 40, " + rest);
            }
        }
        for (int m = 0; m < 3; m++) {
            for (int what = 0; what < 10; what++) {
                add(calls, "told(" + m + ", " + what + ")", "asks(" + what % 3 + ", " + m + ")", "when(" + what % 3 + ")");
            }
            for (int s = 0; s < 3; s++) {
                String of = "(" + s + ", " + m;
                add(calls, "judge" + of + ")", "laws" + of + ")", "whose(" + s + ")");
                for (int what = 0; what < 4; what++) {
                    add(calls, "kinds" + of + ", " + what % 2 + ")", "states" + of + ", " + what + ")",
                        "weary" + of + ", " + what % 2 + ")");
                }
            }
            for (int kind = 0; kind < 7; kind++) {
                add(calls, "taken(" + m + ", " + kind + ")", "taken(" + (6 + m) + ", " + kind + ")");
            }
        }
        T.test("terms: what is asked changes nothing", Steps.with(RICH, calls.toArray(new String[0])));
    }

    private static void add(List<String> calls, String... more) {
        for (String call : more) {
            calls.add(call + " ?");
        }
    }
}
