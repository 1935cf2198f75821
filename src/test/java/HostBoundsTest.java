/** Each sentence of promises 32 to 36 that names a boundary case: the host's rows, mowers by them, what lies there. */
public final class HostBoundsTest {
    private static final Steps T = new Steps();
    private static final String[] BAD_SHEETS = {"-1", "4", "MIN", "MAX"};
    private static final String[] SIX = {"sets(0, 9) = 2", "mower(0, 0) = 0", "mower(10, 101) = 1",
        "mower(20, 202) = 2", "mower(30, 303) = 3", "mower(40, 404) = 4", "mower(50, 511) = 5"};

    public static void main(String[] args) {
        sheetRefuses();
        sheets();
        sheetsAllZero();
        sheetsMissing();
        cellRefuses();
        cells();
        cellWidths();
        copyRefuses();
        copyOutside();
        copies();
        mowersByRefuses();
        mowersByOutside();
        mowersByNumbers();
        mowersLeftOut();
        mowersByWidths();
        takenRefuses();
        takenKinds();
        takenNumbers();
        takenSwings();
        T.end();
    }

    private static void sheetRefuses() {
        for (String s : BAD_SHEETS) {
            T.test("32: sheet", "sheet(" + s + ", 0, 1) ! -2", "sheet(" + s + ", -1, 1) ! -2");
        }
        for (String sort : new String[] {"-2", "3", "MIN", "MAX"}) {
            T.test("32: sort", "ints 0: 0 500", "sheet(0, " + sort + ", 1) ! -2");
        }
        for (String n : new String[] {"41", "MAX"}) {
            T.test("32: n above 40", "ints 0: 0 500", "sheet(0, 0, " + n + ") ! -2", "sheet(0, 1, " + n + ") ! -2",
                "sheet(0, 2, " + n + ") ! -2");
        }
        for (String n : new String[] {"-1", "MIN"}) {
            T.test("32: n below 0", "ints 0: 0 500", "sheet(0, 0, " + n + ") ! -14", "sheet(0, 1, " + n + ") ! -14",
                "sheet(0, 2, " + n + ") ! -14");
        }
        T.test("32: a sheet ahead of n", "sheet(4, 0, -1) ! -2", "sheet(-1, 0, -1) ! -2");
        T.test("32: a sort ahead of n", "sheet(0, 3, -1) ! -2", "sheet(0, -2, -1) ! -2");
    }

    private static void sheets() {
        for (int s = 0; s < 4; s += 3) {
            for (int sort = 0; sort < 3; sort++) {
                String make = "sheet(" + s + ", " + sort + ", ";
                String cell = "cell(" + s + ", ";
                T.test("32: of none", make + "0) = 1", cell + "0, 0) ! -12", "whose(" + s + ") ? 0");
                T.test("32: of one", make + "1) = 1", cell + "0, 0) ? 1", cell + "1, 0) ! -12");
                T.test("32: of forty", make + "40) = 1", cell + "39, 0) ? 1", cell + "40, 0) ! -12");
                for (int other = 0; other < 3; other++) {
                    T.test("32: of sort " + sort + " alone", make + "1) = 1",
                        "mowersBy(" + s + ", " + other + ", 0, 0) " + (other == sort ? "? 0" : "! -13"));
                }
            }
        }
    }

    private static void sheetsAllZero() {
        T.test("32: all 0, made anew", "ints 0: 59 911 59 811", "sheet(0, 2, 4) = 1", "mowersBy(0, 2, 0, 2) = 1",
            "told(0, 0) ? 0", "told(0, 1) ? 0", "told(0, 3) ? 0", "told(0, 4) ? 0");
        T.test("32: all 0, the last of forty", "sheet(0, 2, 40) = 1", "cell(0, 38, 59) = 1", "cell(0, 39, 911) = 1",
            "sheet(0, 2, 40) = 1", "mowersBy(0, 2, 38, 1) = 1", "told(0, 0) ? 0", "told(0, 3) ? 0");
        T.test("32: all 0, larger than ahead", "ints 0: 59 911", "sheet(0, 2, 4) = 1", "mowersBy(0, 2, 2, 1) = 1",
            "told(0, 0) ? 0");
        T.test("32: all 0, larger than the one ahead of that", "ints 0: 59 911 59 811", "sheet(0, 2, 1) = 1",
            "sheet(0, 2, 4) = 1", "mowersBy(0, 2, 2, 1) = 1", "told(0, 0) ? 0");
    }

    private static void sheetsMissing() {
        for (String n : new String[] {"0", "40", "41", "-1", "MIN", "MAX"}) {
            T.test("32: missing, n does not matter", "ints 0: 0 500", "sheet(0, -1, " + n + ") = 1", "cell(0, 0, 0) ! -11",
                "whose(0) ! -11");
        }
        T.test("32: missing, as it is", "sheet(0, -1, 5) ? 1");
        T.test("32: missing, and there again", "ints 3: 0 500", "sheet(3, -1, 0) = 1", "sheet(3, 2, 2) = 1",
            "mowersBy(3, 2, 0, 1) = 1", "told(0, 0) ? 0");
        T.test("32: the other ones stay", "ints 0: 0 500", "ints 1: 0 600", "sheet(0, -1, 0) = 1",
            "mowersBy(1, 2, 0, 1) = 1", "told(0, 0) ? 6");
    }

    private static void cellRefuses() {
        for (String s : BAD_SHEETS) {
            T.test("33: sheet", "cell(" + s + ", 0, 1) ! -2", "cell(" + s + ", -1, 1) ! -2");
        }
        T.test("33: missing", "cell(0, 0, 1) ! -11", "cell(3, 0, 1) ! -11");
        T.test("33: missing ahead of outside", "cell(0, -1, 1) ! -11", "cell(0, 40, 1) ! -11");
        for (String i : new String[] {"-1", "4", "40", "MIN", "MAX"}) {
            T.test("33: outside", "ints 0: 0 500 10 600", "cell(0, " + i + ", 1) ! -12");
        }
        T.test("33: outside of none", "ints 0: ", "cell(0, 0, 1) ! -12", "cell(0, -1, 1) ! -12");
        T.test("33: outside of a larger one ahead", "sheet(0, 2, 40) = 1", "sheet(0, 2, 2) = 1", "cell(0, 2, 1) ! -12");
    }

    private static void cells() {
        T.test("33: the first and the last", "sheet(0, 2, 4) = 1", "cell(0, 0, 41) = 1", "cell(0, 3, 711) = 1",
            "cell(0, 1, 302) = 1", "cell(0, 2, 13) = 1", "mowersBy(0, 2, 0, 2) = 2", "told(0, 0) ? 3", "told(0, 3) ? 4",
            "told(1, 0) ? 7", "told(1, 1) ? 11", "told(1, 4) ? 3");
        T.test("33: the last of forty", "sheet(3, 2, 40) = 1", "cell(3, 39, 711) = 1", "mowersBy(3, 2, 38, 1) = 1",
            "told(0, 0) ? 7", "told(0, 1) ? 11");
        T.test("33: the same again", "ints 0: 0 500", "cell(0, 1, 500) ? 1");
    }

    /** A cell of that sort is read by a pair: one comes at the place and swing, or is left out. */
    private static void width(String title, int sort, long v, int place, int swing) {
        String[] steps = {"sheet(0, " + sort + ", 2) = 1", "cell(0, 1, " + v + ") = 1",
            "mowersBy(0, " + sort + ", 0, 1) = " + (place < 0 ? 0 : 1)};
        String[] told = {"told(0, 0) ? " + place, "told(0, 1) ? " + swing};
        T.test("33: " + title, place < 0 ? steps : Steps.with(steps, told));
    }

    private static void cellWidths() {
        width("a byte of 107", 0, 107, 1, 7);
        width("a byte of 256 more", 0, 107 + 256, 1, 7);
        width("a byte of 256 less", 0, 107 - 256, 1, 7);
        width("a byte of the highest bits", 0, Integer.MIN_VALUE + 107, 1, 7);
        width("a byte of 256 is 0", 0, 256, 0, 0);
        width("a byte of 128 is below 0", 0, 128, -1, 0);
        width("a byte of -1", 0, -1, -1, 0);
        width("a byte of 255 is below 0", 0, 255, -1, 0);
        width("a short of 907", 1, 907, 9, 7);
        width("a short of 65536 more", 1, 907 + 65536, 9, 7);
        width("a short of 65536 less", 1, 907 - 65536, 9, 7);
        width("a short of 65536 is 0", 1, 65536, 0, 0);
        width("a short of the highest bits", 1, Integer.MIN_VALUE + 907, 9, 7);
        width("a short keeps more than 8 bits", 1, 256 + 148, 4, 4);
        width("a short of 65535 is below 0", 1, 65535, -1, 0);
        width("an int of 907", 2, 907, 9, 7);
        width("an int of 65536 more", 2, 907 + 65536, -1, 0);
        width("an int at most", 2, Integer.MAX_VALUE, -1, 0);
        width("an int at least", 2, Integer.MIN_VALUE, -1, 0);
    }

    private static void copyRefuses() {
        String[] two = {"ints 0: 0 500 10 600", "ints 1: 20 700 30 800"};
        for (String s : BAD_SHEETS) {
            T.test("34: sheet", Steps.with(two, "copy(" + s + ", 0, 0, 0, 1) ! -2", "copy(0, 0, " + s + ", 0, 1) ! -2"));
            T.test("34: sheet ahead of missing", "copy(" + s + ", 0, 0, 0, 1) ! -2", "copy(0, 0, " + s + ", 0, 1) ! -2");
        }
        T.test("34: from a missing one", Steps.with(two, "copy(2, 0, 0, 0, 1) ! -11", "copy(3, 0, 0, 0, 0) ! -11"));
        T.test("34: to a missing one", Steps.with(two, "copy(0, 0, 2, 0, 1) ! -11", "copy(0, 0, 3, 0, 0) ! -11"));
        T.test("34: both missing, one's own", "copy(0, 0, 1, 0, 0) ! -11", "copy(0, 0, 0, 0, 0) ! -11");
        T.test("34: missing ahead of outside", Steps.with(two, "copy(2, -1, 0, -1, -1) ! -11"));
        String[] sorts = {"bytes 0: 0 100", "shorts 1: 0 500", "ints 2: 0 600"};
        for (int from = 0; from < 3; from++) {
            for (int to = 0; to < 3; to++) {
                String copy = "copy(" + from + ", 0, " + to + ", 0, ";
                if (from != to) {
                    T.test("34: unlike sorts", Steps.with(sorts, copy + "1) ! -13", copy + "0) ! -13"));
                    T.test("34: unlike sorts ahead of outside", Steps.with(sorts, copy + "-1) ! -13", copy + "3) ! -13"));
                }
            }
        }
    }

    private static void copyOutside() {
        String[] two = {"ints 0: 0 500 10 600", "ints 1: 20 700 30 800 40 900"};
        for (String n : new String[] {"-1", "MIN"}) {
            T.test("34: n below 0", Steps.with(two, "copy(0, 0, 1, 0, " + n + ") ! -12",
                "copy(0, 1, 1, 1, " + n + ") ! -12"));
        }
        for (String n : new String[] {"5", "6", "7", "40", "41", "MAX"}) {
            T.test("34: n beyond the end", Steps.with(two, "copy(0, 0, 1, 0, " + n + ") ! -12"));
        }
        T.test("34: n beyond the other's end", Steps.with(two, "copy(1, 0, 0, 0, 5) ! -12", "copy(1, 0, 0, 1, 4) ! -12",
            "copy(1, 0, 0, 4, 1) ! -12"));
        T.test("34: n beyond the end, from further on", Steps.with(two, "copy(0, 1, 1, 0, 4) ! -12",
            "copy(0, 3, 1, 0, 2) ! -12", "copy(0, 4, 1, 0, 1) ! -12", "copy(0, 1, 1, 1, MAX) ! -12"));
        for (String i : new String[] {"-1", "MIN", "5", "MAX"}) {
            T.test("34: from outside", Steps.with(two, "copy(0, " + i + ", 1, 0, 1) ! -12",
                "copy(0, " + i + ", 1, 0, 0) ! -12"));
        }
        for (String j : new String[] {"-1", "MIN", "5", "MAX"}) {
            T.test("34: to outside", Steps.with(two, "copy(1, 0, 0, " + j + ", 1) ! -12",
                "copy(1, 0, 0, " + j + ", 0) ! -12"));
        }
        T.test("34: outside of none", "ints 0: ", "ints 1: 0 500", "copy(0, 0, 1, 0, 1) ! -12", "copy(1, 0, 0, 0, 1) ! -12",
            "copy(0, 0, 1, 0, 0) ? 0", "copy(0, 0, 0, 0, 0) ? 0");
    }

    private static void copies() {
        String[] two = {"ints 0: 0 500 10 600", "ints 1: 20 700 30 800 40 900"};
        T.test("34: none", Steps.with(two, "copy(0, 0, 1, 0, 0) ? 0"));
        T.test("34: none, at the ends", Steps.with(two, "copy(0, 4, 1, 6, 0) ? 0"));
        T.test("34: one, the last to the first", Steps.with(two, "copy(0, 3, 1, 0, 1) = 1", "cell(1, 1, 400) = 1",
            "mowersBy(1, 2, 0, 3) = 2", "told(0, 0) ? 8", "told(1, 0) ? 9"));
        T.test("34: one, the first to the last", Steps.with(two, "copy(0, 1, 1, 5, 1) = 1", "mowersBy(1, 2, 4, 1) = 1",
            "told(0, 0) ? 5", "told(0, 3) ? 4"));
        T.test("34: all to the end", Steps.with(two, "copy(0, 0, 1, 2, 4) = 4", "mowersBy(1, 2, 0, 3) = 3",
            "told(0, 0) ? 7", "told(1, 0) ? 5", "told(2, 0) ? 6"));
        T.test("34: they stay where they were", Steps.with(two, "copy(0, 0, 1, 2, 4) = 4", "mowersBy(0, 2, 0, 2) = 2",
            "told(0, 0) ? 5", "told(1, 0) ? 6"));
        T.test("34: forty", "sheet(0, 1, 40) = 1", "sheet(3, 1, 40) = 1", "cell(0, 0, 51) = 1", "cell(0, 39, 802) = 1",
            "copy(0, 0, 3, 0, 40) = 40", "mowersBy(3, 1, 38, 1) = 1", "told(0, 0) ? 8", "copy(0, 0, 3, 0, 41) ! -12");
        T.test("34: its own, as they were, upwards", "ints 0: 0 500 0 600 0 700", "copy(0, 0, 0, 2, 4) = 4",
            "mowersBy(0, 2, 0, 3) = 2", "told(0, 0) ? 5", "told(1, 0) ? 6");
        T.test("34: its own, as they were, by one", "ints 0: 0 11 3 304", "copy(0, 0, 0, 1, 3) = 3", "cell(0, 0, 7) = 1",
            "mowersBy(0, 2, 0, 2) = 1", "told(0, 4) ? 7", "told(0, 1) ? 0");
        T.test("34: its own, as they were, downwards", "ints 0: 0 500 0 600 0 700", "copy(0, 2, 0, 0, 4) = 4",
            "mowersBy(0, 2, 0, 3) = 2", "told(0, 0) ? 6", "told(1, 0) ? 7");
        T.test("34: its own to where it is", "ints 0: 0 500 0 600", "copy(0, 0, 0, 0, 4) ? 4", "copy(0, 1, 0, 1, 3) ? 3");
    }

    private static void mowersByRefuses() {
        String[] list = {"ints 0: 0 500 10 600"};
        for (String s : BAD_SHEETS) {
            T.test("35: sheet", Steps.with(list, "mowersBy(" + s + ", 2, 0, 1) ! -2"));
        }
        for (String sort : new String[] {"-1", "3", "MIN", "MAX"}) {
            T.test("35: sort", Steps.with(list, "mowersBy(0, " + sort + ", 0, 1) ! -2"));
            T.test("35: sort ahead of missing", "mowersBy(0, " + sort + ", 0, 1) ! -2");
        }
        for (String n : new String[] {"-1", "7", "MIN", "MAX"}) {
            T.test("35: n", Steps.with(list, "mowersBy(0, 2, 0, " + n + ") ! -2"));
            T.test("35: n ahead of missing, of unlike", "bytes 1: 0 0", "mowersBy(0, 2, 0, " + n + ") ! -2",
                "mowersBy(1, 2, 0, " + n + ") ! -2");
        }
        T.test("35: missing", "mowersBy(0, 2, 0, 1) ! -11", "mowersBy(3, 0, 0, 0) ! -11");
        T.test("35: missing ahead of outside", "mowersBy(0, 2, -1, 1) ! -11");
        T.test("35: unlike", Steps.with(list, "mowersBy(0, 0, 0, 1) ! -13", "mowersBy(0, 1, 0, 1) ! -13",
            "mowersBy(0, 1, 0, 0) ! -13"));
        T.test("35: unlike ahead of outside", Steps.with(list, "mowersBy(0, 0, -1, 1) ! -13",
            "mowersBy(0, 1, 4, 1) ! -13"));
    }

    private static void mowersByOutside() {
        String[] list = {"ints 0: 0 500 10 600"};
        for (String from : new String[] {"-1", "-2", "3", "4", "5", "40", "MIN", "MAX"}) {
            T.test("35: outside at once", Steps.with(list, "mowersBy(0, 2, " + from + ", 1) ! -12",
                "mowersBy(0, 2, " + from + ", 6) ! -12", "mowersBy(0, 2, " + from + ", 0) ? 0"));
        }
        T.test("35: from the last pair", Steps.with(list, "mowersBy(0, 2, 2, 1) = 1", "told(0, 0) ? 6"));
        T.test("35: what stood ahead came", Steps.with(list, "mowersBy(0, 2, 0, 3) = -12", "count(0) ? 2",
            "told(0, 0) ? 5", "told(1, 0) ? 6"));
        T.test("35: one of two came", Steps.with(list, "mowersBy(0, 2, 2, 2) = -12", "count(0) ? 1", "told(0, 0) ? 6"));
        T.test("35: half a pair does not come", "ints 0: 0 500 0", "mowersBy(0, 2, 0, 2) = -12", "count(0) ? 1",
            "mowersBy(0, 2, 2, 1) ! -12");
        T.test("35: of none", "ints 0: ", "mowersBy(0, 2, 0, 1) ! -12", "mowersBy(0, 2, 0, 0) ? 0");
        T.test("35: outside though all are full", Steps.with(SIX, "ints 0: 0 700", "mowersBy(0, 2, 0, 1) ? 0",
            "mowersBy(0, 2, 0, 2) ! -12"));
        T.test("35: outside of a larger one ahead", "ints 0: 0 500 10 600", "sheet(0, 2, 2) = 1",
            "mowersBy(0, 2, 2, 1) ! -12");
        T.test("35: the last pair of forty", "sheet(0, 1, 40) = 1", "cell(0, 39, 800) = 1", "mowersBy(0, 1, 39, 1) ! -12",
            "mowersBy(0, 1, 38, 1) = 1", "told(0, 0) ? 8");
    }

    private static void mowersByNumbers() {
        String six = "ints 0: 0 0 10 101 20 302 30 403 40 504 59 911";
        T.test("35: none", six, "mowersBy(0, 2, 0, 0) ? 0");
        T.test("35: one", six, "mowersBy(0, 2, 0, 1) = 1", "count(0) ? 1", "told(0, 0) ? 0");
        T.test("35: six", six, "mowersBy(0, 2, 0, 6) = 6", "count(0) ? 6", "told(5, 0) ? 9", "told(5, 1) ? 11",
            "told(5, 2) ? 0", "told(5, 3) ? 5", "told(5, 4) ? 9");
        T.test("35: from an odd place", "ints 0: 77 19 702", "mowersBy(0, 2, 1, 1) = 1", "told(0, 0) ? 7",
            "told(0, 1) ? 2", "told(0, 3) ? 1", "told(0, 4) ? 9");
    }

    private static void mowersLeftOut() {
        T.test("35: left out as bad", "ints 0: 60 500 -1 500 0 -1 0 512 0 1000 0 500", "mowersBy(0, 2, 0, 6) = 1",
            "count(0) ? 1", "told(0, 0) ? 5");
        T.test("35: left out, all", "ints 0: 60 500 -1 500", "mowersBy(0, 2, 0, 2) ? 0");
        T.test("35: left out in the gap", "ints 0: 0 200 0 300", "mowersBy(0, 2, 0, 2) = 1", "told(0, 0) ? 3");
        T.test("35: left out where one came just now", "ints 0: 0 500 11 500 0 600", "mowersBy(0, 2, 0, 3) = 2",
            "told(0, 3) ? 0", "told(1, 0) ? 6");
        T.test("35: left out, no room", Steps.with(SIX, "ints 0: 0 600 0 700", "mowersBy(0, 2, 0, 2) ? 0"));
        T.test("35: the last one has room", "mower(0, 0) = 0", "mower(0, 100) = 1", "mower(0, 300) = 2",
            "mower(0, 400) = 3", "mower(0, 500) = 4", "ints 0: 0 600 0 700", "mowersBy(0, 2, 0, 2) = 1", "count(0) ? 6",
            "told(5, 0) ? 6");
    }

    private static void mowersByWidths() {
        T.test("35: by bytes", "bytes 0: 59 111 10 0", "mowersBy(0, 0, 0, 2) = 2", "told(0, 0) ? 1", "told(0, 1) ? 11",
            "told(0, 3) ? 5", "told(1, 0) ? 0");
        T.test("35: by shorts", "shorts 0: 59 911", "mowersBy(0, 1, 0, 1) = 1", "told(0, 0) ? 9", "told(0, 1) ? 11");
        T.test("35: by ints", "ints 0: 59 911", "mowersBy(0, 2, 0, 1) = 1", "told(0, 0) ? 9", "told(0, 1) ? 11");
        T.test("35: by a film", "mower(0, 500) = 0", "film(0, 0, 3) = 3", "mowersBy(0, 0, 0, 1) = 1", "told(1, 4) ? 4",
            "told(1, 1) ? 7");
    }

    private static void takenRefuses() {
        for (String kind : new String[] {"-1", "7", "MIN", "MAX"}) {
            T.test("36: kind", Steps.with(SIX, "taken(0, " + kind + ") ! -2", "taken(6, " + kind + ") ! -2"));
            T.test("36: kind ahead of outside, of none such", "taken(12, " + kind + ") ! -2", "taken(0, " + kind + ") ! -2");
        }
        for (String i : new String[] {"-1", "12", "MIN", "MAX"}) {
            T.test("36: outside", Steps.with(SIX, "taken(" + i + ", 0) ! -12", "taken(" + i + ", 6) ! -12"));
            T.test("36: outside ahead of none such", "taken(" + i + ", 0) ! -12");
        }
        T.test("36: nobody", "taken(0, 0) ! -11", "taken(5, 0) ! -11", "taken(6, 6) ! -11", "taken(11, 6) ! -11");
        T.test("36: one more than there are", "mower(0, 500) = 0", "taken(1, 0) ! -11", "taken(7, 6) ! -11");
        T.test("36: none such ahead of -13", "mower(0, 500) = 0", "taken(1, 6) ! -11", "taken(7, 0) ! -11");
    }

    /** Of each kind, which kinds it is one of, by bits. */
    private static void takenKinds() {
        int[] is = {1, 3, 5, 11, 21, 33};
        for (int m = 0; m < 6; m++) {
            for (int kind = 0; kind < 6; kind++) {
                T.test("36: kind " + m + " for kind " + kind, Steps.with(SIX,
                    "taken(" + m + ", " + kind + ") " + ((is[m] >> kind & 1) == 1 ? "? " + m : "! -13")));
            }
            T.test("36: kind " + m + " for a swing", Steps.with(SIX, "taken(" + m + ", 6) ! -13"));
        }
    }

    private static void takenNumbers() {
        String[] six = {"mower(59, 0) = 0", "mower(49, 100) = 1", "mower(39, 300) = 2", "mower(29, 400) = 3",
            "mower(19, 500) = 4", "mower(9, 600) = 5"};
        T.test("36: the number, whatever the kind, the place", Steps.with(six, "taken(0, 5) ? 0", "taken(1, 4) ? 1",
            "taken(2, 3) ? 2", "taken(3, 2) ? 3", "taken(4, 1) ? 4", "taken(5, 0) ? 5", "taken(0, 0) ? 0",
            "taken(1, 2) ? 1", "taken(2, 1) ? 2"));
    }

    private static void takenSwings() {
        int[] swings = {0, 1, 2, 3, 4, 11};
        for (int m = 0; m < 6; m++) {
            T.test("36: the swing of " + m, Steps.with(SIX, "taken(" + (6 + m) + ", 6) ? " + swings[m]));
            T.test("36: the swing of " + m + " for a mower", Steps.with(SIX, "taken(" + (6 + m) + ", 0) ! -13",
                "taken(" + (6 + m) + ", 5) ! -13"));
        }
    }
}
