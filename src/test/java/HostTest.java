/** Promises 32 to 36: the host's rows, mowers by them, what lies there taken for something. */
public final class HostTest {
    private static final Due D = new Due();
    private static final int MIN = Integer.MIN_VALUE, MAX = Integer.MAX_VALUE;

    public static void main(String[] args) {
        sheets();
        cells();
        copies();
        copiesRefuse();
        mowersComeBySheets();
        mowersAreLeftOut();
        mowersBySmallNumbers();
        mowersByRefuses();
        takes();
        D.end();
    }

    private static void sheets() {
        ScythesKeepStep x = new ScythesKeepStep();
        for (int s : new int[] {-1, 4, MIN, MAX}) {
            D.due("sheet " + s, x.sheet(s, 0, 1), -2);
        }
        for (int sort : new int[] {-2, 3, MIN, MAX}) {
            D.due("sort " + sort, x.sheet(0, sort, 1), -2);
        }
        D.due("41", x.sheet(0, 0, 41), -2);
        D.due("the most", x.sheet(0, 0, MAX), -2);
        D.due("-1", x.sheet(0, 0, -1), -14);
        D.due("the least", x.sheet(0, 0, MIN), -14);
        D.due("sheet ahead of size", x.sheet(4, 0, -1), -2);
        D.due("sort ahead of size", x.sheet(0, 3, -1), -2);
        D.due("still missing", x.cell(0, 0, 0), -11);
        D.due("40", x.sheet(0, 0, 40), 1);
        D.due("the last", x.cell(0, 39, 0), 1);
        D.due("0", x.sheet(3, 2, 0), 1);
        D.due("of none", x.cell(3, 0, 0), -12);
        D.due("missing, n does not matter", x.sheet(0, -1, 41), 1);
        D.due("it is", x.cell(0, 0, 0), -11);
        D.due("missing twice", x.sheet(0, -1, MIN), 1);
        x.sheet(0, 2, 2);
        x.cell(0, 0, 5);
        x.cell(0, 1, 500);
        x.sheet(0, 2, 2);
        D.due("all 0 again: a mower 0 at 0", x.mowersBy(0, 2, 0, 1), 1);
        D.due("at 0", x.told(0, 0), 0);
        D.due("more 0", x.told(0, 4), 0);
        x.sheet(3, 2, 40);
        x.cell(3, 38, 5);
        x.cell(3, 39, 500);
        x.sheet(3, 2, 40);
        x.put(0, 0, 9);
        D.due("the last are 0 again, too", x.mowersBy(3, 2, 38, 1), 1);
        D.due("at 0 again", x.told(1, 0), 0);
    }

    private static void cells() {
        ScythesKeepStep x = new ScythesKeepStep();
        for (int s : new int[] {-1, 4, MIN, MAX}) {
            D.due("cell of sheet " + s, x.cell(s, -1, 1), -2);
        }
        D.due("missing ahead of outside", x.cell(0, -1, 1), -11);
        x.sheet(0, 1, 3);
        for (int i : new int[] {-1, 3, MIN, MAX}) {
            D.due("cell " + i, x.cell(0, i, 1), -12);
        }
        D.due("the first", x.cell(0, 0, MAX), 1);
        D.due("the last", x.cell(0, 2, MIN), 1);
    }

    /** No call tells a cell: each is copied alone to a sheet by which a mower is judged who swings 3 on to it. */
    private static void sheetIs(String what, ScythesKeepStep x, int s, int... numbers) {
        x.sheet(3, 2, numbers.length);
        for (int i = 0; i < numbers.length; i++) {
            D.due(what + ": number " + i + " is there", x.copy(s, i, 3, 0, 1), 1);
            x.sheet(2, 2, 1);
            x.copy(3, 0, 2, 0, 1);
            x.put(0, 1, (numbers[i] + 9) % 12);
            x.sets(1, (numbers[i] + 1) % 12);
            D.due(what + ": number " + i, x.judge(2, 0), -1);
        }
        D.due(what + ": no more", x.copy(s, numbers.length, 3, 0, 1), -12);
    }

    private static void copies() {
        ScythesKeepStep x = new ScythesKeepStep();
        x.mower(0, 500);
        Due.tell(x, 0, 1, 2, 3, 4, 5);
        Due.tell(x, 1, 0, 0, 0, 0);
        D.due("two", x.copy(0, 3, 1, 1, 2), 2);
        sheetIs("two came", x, 1, 0, 4, 5, 0);
        sheetIs("they stay", x, 0, 1, 2, 3, 4, 5);
        D.due("one's own upwards", x.copy(0, 0, 0, 1, 4), 4);
        sheetIs("as they were, upwards", x, 0, 1, 1, 2, 3, 4);
        D.due("one's own downwards", x.copy(0, 1, 0, 0, 4), 4);
        sheetIs("as they were, downwards", x, 0, 1, 2, 3, 4, 4);
        D.due("none", x.copy(0, 0, 1, 0, 0), 0);
        D.due("none at the ends", x.copy(0, 5, 1, 4, 0), 0);
        D.due("all to itself", x.copy(0, 0, 0, 0, 5), 5);
        sheetIs("the same", x, 0, 1, 2, 3, 4, 4);
    }

    private static void copiesRefuse() {
        ScythesKeepStep x = new ScythesKeepStep();
        for (int s : new int[] {-1, 4, MIN, MAX}) {
            D.due("copy from " + s, x.copy(s, 0, 0, 0, 0), -2);
            D.due("copy to " + s, x.copy(0, 0, s, 0, 0), -2);
        }
        D.due("both missing", x.copy(0, 0, 1, 0, -1), -11);
        x.sheet(0, 0, 3);
        D.due("to a missing one", x.copy(0, 0, 1, 0, -1), -11);
        D.due("from a missing one", x.copy(1, 0, 0, 0, -1), -11);
        x.sheet(1, 1, 3);
        D.due("unlike ahead of outside", x.copy(0, -1, 1, -1, -1), -13);
        D.due("unlike", x.copy(0, 0, 1, 0, 1), -13);
        x.sheet(1, 0, 4);
        D.due("n -1", x.copy(0, 0, 1, 0, -1), -12);
        D.due("n least", x.copy(0, 0, 1, 0, MIN), -12);
        D.due("n most", x.copy(0, 1, 1, 1, MAX), -12);
        D.due("from -1", x.copy(0, -1, 1, 0, 1), -12);
        D.due("to -1", x.copy(0, 0, 1, -1, 1), -12);
        D.due("from -1, none", x.copy(0, -1, 1, 0, 0), -12);
        D.due("from most", x.copy(0, MAX, 1, 0, 1), -12);
        D.due("to most", x.copy(0, 0, 1, MAX, MAX), -12);
        D.due("beyond from's end", x.copy(0, 0, 1, 0, 4), -12);
        D.due("beyond to's end", x.copy(0, 0, 1, 2, 3), -12);
        D.due("from beyond, none", x.copy(0, 4, 1, 0, 0), -12);
        D.due("to beyond, none", x.copy(0, 0, 1, 5, 0), -12);
        D.due("to the end", x.copy(0, 0, 1, 1, 3), 3);
    }

    private static void mowersComeBySheets() {
        ScythesKeepStep x = new ScythesKeepStep();
        Due.tell(x, 0, 99, 12, 106, 59, 911, 23, 404);
        D.due("from 1 on", x.mowersBy(0, 2, 1, 3), 3);
        int[][] due = {{1, 6, 0, 1, 2}, {9, 11, 0, 5, 9}, {4, 4, 0, 2, 3}};
        for (int m = 0; m < 3; m++) {
            for (int what = 0; what < 5; what++) {
                D.due("told " + m + ", " + what, x.told(m, what), due[m][what]);
            }
        }
        D.due("none of them", x.mowersBy(0, 2, 1, 0), 0);
        D.due("none from anywhere", x.mowersBy(0, 2, 100, 0), 0);
        D.due("three", x.count(0), 3);
    }

    private static void mowersAreLeftOut() {
        ScythesKeepStep x = new ScythesKeepStep();
        Due.tell(x, 0, 0, 0, 0, 1, 60, 300, 0, 200, -1, 300, 0, -1, 0, 312, 0, 300, 0, 400);
        D.due("the first alone of six", x.mowersBy(0, 2, 0, 6), 1);
        D.due("there is one", x.count(0), 1);
        D.due("the last two of three", x.mowersBy(0, 2, 12, 3), 2);
        Due.tell(x, 0, 0, 500, 0, 600, 0, 700, 0, 800, 0, 900);
        D.due("three have room", x.mowersBy(0, 2, 0, 5), 3);
        D.due("six", x.count(0), 6);
        D.due("none has room, but the end is outside", x.mowersBy(0, 2, 6, 3), -12);
        x = new ScythesKeepStep();
        Due.tell(x, 0, 0, 500, 0, 600, 0);
        D.due("half a pair is outside", x.mowersBy(0, 2, 0, 3), -12);
        D.due("what stood ahead came", x.count(0), 2);
    }

    private static void mowersBySmallNumbers() {
        ScythesKeepStep x = new ScythesKeepStep();
        x.sheet(0, 0, 6);
        x.cell(0, 0, 256 + 41);
        x.cell(0, 1, 512 + 107);
        x.cell(0, 2, 0);
        x.cell(0, 3, 900);
        D.due("bytes: 41 at 107, 0 at 900 - 1024", x.mowersBy(0, 0, 0, 2), 1);
        D.due("kind", x.told(0, 3), 4);
        D.due("place", x.told(0, 0), 1);
        D.due("swing", x.told(0, 1), 7);
        x.sheet(1, 1, 2);
        x.cell(1, 0, 65536 + 50);
        x.cell(1, 1, -65536 + 911);
        D.due("shorts", x.mowersBy(1, 1, 0, 1), 1);
        D.due("place 9", x.told(1, 0), 9);
        x.sheet(1, 2, 2);
        x.cell(1, 0, 65536 + 50);
        x.cell(1, 1, 811);
        D.due("ints are whole", x.mowersBy(1, 2, 0, 1), 0);
        x.sets(0, 5);
        x.cell(0, 4, 0);
        x.cell(0, 5, 205);
        D.due("a byte above 127 is below 0", x.mowersBy(0, 0, 4, 1), 0);
    }

    private static void mowersByRefuses() {
        ScythesKeepStep x = new ScythesKeepStep();
        for (int bad : new int[] {-1, 4, MIN, MAX}) {
            D.due("mowersBy sheet " + bad, x.mowersBy(bad, 0, 0, 1), -2);
        }
        for (int bad : new int[] {-1, 3, MIN, MAX}) {
            D.due("mowersBy sort " + bad, x.mowersBy(0, bad, 0, 1), -2);
        }
        for (int bad : new int[] {-1, 7, MIN, MAX}) {
            D.due("mowersBy n " + bad, x.mowersBy(0, 0, 0, bad), -2);
        }
        D.due("missing ahead of outside", x.mowersBy(0, 0, -1, 1), -11);
        x.sheet(0, 0, 12);
        D.due("unlike ahead of outside", x.mowersBy(0, 1, -1, 1), -13);
        D.due("shorts asked for ints", x.mowersBy(0, 2, 0, 1), -13);
        for (int from : new int[] {-1, -2, 11, 12, MIN, MIN + 1, MAX, MAX - 1}) {
            D.due("from " + from, x.mowersBy(0, 0, from, 6), -12);
        }
        D.due("nobody came", x.count(0), 0);
        D.due("from 10", x.mowersBy(0, 0, 10, 1), 1);
    }

    private static void takes() {
        ScythesKeepStep x = new ScythesKeepStep();
        for (int bad : new int[] {-1, 7, MIN, MAX}) {
            D.due("kind " + bad + " ahead of place", x.taken(12, bad), -2);
        }
        for (int bad : new int[] {-1, 12, MIN, MAX}) {
            D.due("place " + bad, x.taken(bad, 0), -12);
        }
        D.due("none such", x.taken(0, 0), -11);
        D.due("none such ahead of -13", x.taken(6, 0), -11);
        x.sets(0, 9);
        for (int kind = 0; kind < 6; kind++) {
            x.mower(10 * kind, 100 * kind + kind + 4);
        }
        int[] above = {0b000001, 0b000011, 0b000101, 0b001011, 0b010101, 0b100001};
        for (int m = 0; m < 6; m++) {
            for (int kind = 0; kind < 6; kind++) {
                int due = (above[m] >> kind & 1) == 1 ? m : -13;
                D.due("kind " + m + " taken for " + kind, x.taken(m, kind), due);
                D.due("a swing taken for kind " + kind, x.taken(m + 6, kind), -13);
            }
            D.due("a mower taken for a swing", x.taken(m, 6), -13);
            D.due("a swing taken for one", x.taken(m + 6, 6), m + 4);
        }
    }
}
