/** Promises 1 to 5 and 7 to 11: the row, the tape, the law in force, mowers. */
public final class RowTest {
    private static final Due D = new Due();
    private static final int MIN = Integer.MIN_VALUE, MAX = Integer.MAX_VALUE;

    public static void main(String[] args) {
        aNewObject();
        counts();
        setsAndRow();
        feeds();
        forces();
        asks();
        mowersCome();
        puts();
        toldOfKinds();
        toldRefuses();
        leftAndRight();
        bounds();
        D.end();
    }

    private static void aNewObject() {
        ScythesKeepStep other = new ScythesKeepStep();
        for (int what = 0; what < 5; what++) {
            other.sets(what, 7);
        }
        other.mower(0, 107);
        other.image();
        other.sheet(0, 0, 3);
        other.force(Due.textOf(other, "swings 1;tires 2;keeps 3;"));
        other.feed(5, 1, 2, 3, 4, 5);
        ScythesKeepStep x = new ScythesKeepStep();
        int[] counts = {0, 0, 1, 0, 0};
        int[] marks = {2, 0, 3, 0, 0};
        for (int i = 0; i < 5; i++) {
            D.due("new: count " + i, x.count(i), counts[i]);
            D.due("new: row " + i, x.row(i), marks[i]);
        }
        for (int s = 0; s < 4; s++) {
            D.due("new: sheet " + s + " is missing", x.cell(s, 0, 0), -11);
        }
        D.due("new: no image", x.back(), -3);
    }

    private static void counts() {
        ScythesKeepStep x = new ScythesKeepStep();
        x.mower(0, 0);
        x.mower(0, 105);
        x.mower(0, 400);
        D.due("mowers", x.count(0), 3);
        D.due("in step", x.count(1), 2);
        x.sets(1, 5);
        D.due("in step by another beat", x.count(1), 1);
        D.due("a text", Due.textOf(x, "swings 1;tires 2;keeps 3;"), 1);
        D.due("texts", x.count(2), 2);
        D.due("law 0", x.count(3), 0);
        x.force(1);
        D.due("law 1", x.count(3), 1);
        x.feed(4, 1, 2, 3, 4, 5);
        D.due("bytes", x.count(4), 4);
        for (int what : new int[] {-1, 5, MIN, MAX}) {
            D.due("count " + what, x.count(what), -2);
        }
    }

    private static void setsAndRow() {
        ScythesKeepStep x = new ScythesKeepStep();
        int[] first = {2, 0, 3, 0, 0};
        int[] most = {9, 11, 11, 999, 9999};
        for (int what = 0; what < 5; what++) {
            D.due("sets " + what + " to the most", x.sets(what, most[what]), first[what]);
            D.due("row " + what, x.row(what), most[what]);
            D.due("sets " + what + " beyond", x.sets(what, most[what] + 1), -2);
            D.due("sets " + what + " below", x.sets(what, -1), -2);
            D.due("row " + what + " stays", x.row(what), most[what]);
            D.due("sets " + what + " to 0", x.sets(what, 0), most[what]);
        }
        for (int what : new int[] {-1, 5, MIN, MAX}) {
            D.due("sets none such " + what, x.sets(what, 0), -2);
            D.due("row none such " + what, x.row(what), -2);
        }
        x.mower(0, 100);
        D.due("the gap where somebody is", x.sets(0, 1), -2);
        D.due("the gap where it is", x.sets(0, 0), 0);
        D.due("the gap where nobody is", x.sets(0, 2), 0);
        D.due("a beat that is a place", x.sets(1, 1), 0);
    }

    private static void feeds() {
        ScythesKeepStep x = new ScythesKeepStep();
        D.due("none", x.feed(0, 1, 1, 1, 1, 1), -2);
        D.due("six", x.feed(6, 1, 1, 1, 1, 1), -2);
        D.due("least", x.feed(MIN, 1, 1, 1, 1, 1), -2);
        for (int i = 0; i < 5; i++) {
            for (int bad : new int[] {-1, 256, MIN, MAX}) {
                int[] b = {97, 97, 97, 97, 97};
                b[i] = bad;
                D.due("byte " + i + " is " + bad, x.feed(1, b[0], b[1], b[2], b[3], b[4]), -2);
            }
        }
        D.due("nothing came", x.count(4), 0);
        D.due("bytes 0 and 255", x.feed(5, 0, 255, 0, 255, 0), 5);
        for (int i = 2; i <= 31; i++) {
            D.due("five more", x.feed(5, 1, 1, 1, 1, 1), 5 * i);
        }
        D.due("two more", x.feed(2, 1, 1, 1, 1, 1), 157);
        D.due("four have no room", x.feed(4, 1, 1, 1, 1, 1), -4);
        D.due("bad ahead of full", x.feed(4, 1, 1, 1, 1, 256), -2);
        D.due("none of them came", x.count(4), 157);
        D.due("three have", x.feed(3, 1, 1, 1, 1, 1), 160);
        D.due("one has none", x.feed(1, 1, 1, 1, 1, 1), -4);
        D.due("a fault at 0 empties", x.text(), -100);
        D.due("empty", x.count(4), 0);
        x = new ScythesKeepStep();
        x.feed(5, 's', 'w', 'i', 'n', 'g');
        x.feed(4, 's', ' ', '1', ';', 'x');
        x.feed(3, ' ', 't', 'i', 'x', 'x');
        x.feed(2, 'r', 'e', 'x', 'x', 'x');
        x.feed(1, 's', 'x', 'x', 'x', 'x');
        Due.feedAll(x, "2;keeps 3;");
        D.due("in their order, the first n alone", x.text(), 1);
    }

    private static void forces() {
        ScythesKeepStep x = new ScythesKeepStep();
        D.due("force 1 too early", x.force(1), -2);
        D.due("force -1", x.force(-1), -2);
        Due.textOf(x, "swings 1;tires 2;keeps 3;");
        Due.textOf(x, "swings 4;tires 5;keeps 6;");
        D.due("force 2", x.force(2), 0);
        D.due("force 0", x.force(0), 2);
        D.due("force 3", x.force(3), -2);
        D.due("force none", x.force(MIN), -2);
        D.due("still 0", x.force(0), 0);
    }

    private static void asks() {
        ScythesKeepStep x = new ScythesKeepStep();
        D.due("nobody", x.asks(0, 0), -1000);
        x.mower(19, 3);
        x.mower(38, 105);
        D.due("swings", x.asks(0, 0), 3);
        D.due("tires", x.asks(1, 0), 1);
        D.due("keeps", x.asks(2, 0), 0);
        x.sets(1, 5);
        D.due("swings, in step", x.asks(0, 1), 4);
        D.due("keeps the beat, whatever the kind", x.asks(2, 1), 5);
        for (int bad : new int[] {-1, 3, MIN, MAX}) {
            D.due("part " + bad, x.asks(bad, 0), -1000);
        }
        for (int bad : new int[] {-1, 2, MIN, MAX}) {
            D.due("mower " + bad, x.asks(0, bad), -1000);
        }
    }

    private static void mowersCome() {
        ScythesKeepStep x = new ScythesKeepStep();
        D.due("kind 6", x.mower(60, 0), -2);
        D.due("kind below", x.mower(-1, 0), -2);
        D.due("kind far below", x.mower(MIN, 0), -2);
        D.due("place 10", x.mower(0, 1000), -2);
        D.due("place below", x.mower(0, -1), -2);
        D.due("place far below", x.mower(0, MIN), -2);
        D.due("place far above", x.mower(MAX, MAX), -2);
        D.due("swing 12", x.mower(0, 12), -2);
        D.due("swing 99", x.mower(0, 199), -2);
        D.due("the gap", x.mower(0, 200), -2);
        D.due("nobody came", x.count(0), 0);
        D.due("whistler 9 at 9, 11", x.mower(59, 911), 0);
        D.due("place", x.told(0, 0), 9);
        D.due("swing", x.told(0, 1), 11);
        D.due("tired", x.told(0, 2), 0);
        D.due("kind", x.told(0, 3), 5);
        D.due("more", x.told(0, 4), 9);
        D.due("there is one", x.mower(0, 900), -2);
        x.sets(0, 9 - 1);
        D.due("the gap went", x.mower(0, 200), 1);
        D.due("the gap came", x.mower(0, 800), -2);
        D.due("2", x.mower(0, 0), 2);
        D.due("3", x.mower(0, 100), 3);
        D.due("4", x.mower(0, 300), 4);
        D.due("5", x.mower(0, 400), 5);
        D.due("full", x.mower(0, 500), -4);
        D.due("bad ahead of full", x.mower(0, 400), -2);
        D.due("bad ahead of full, the gap", x.mower(0, 800), -2);
        D.due("six", x.count(0), 6);
    }

    private static void puts() {
        ScythesKeepStep x = new ScythesKeepStep();
        D.due("nobody", x.put(0, 0, 0), -5);
        x.mower(0, 5);
        x.mower(0, 100);
        D.due("-5 ahead of -7", x.put(2, 9, 99), -5);
        D.due("mower -1", x.put(-1, 0, 5), -5);
        D.due("taken", x.put(0, 0, 1), -7);
        D.due("the gap", x.put(0, 0, 2), -7);
        D.due("no place", x.put(0, 0, 10), -7);
        D.due("place -1", x.put(0, 0, -1), -7);
        D.due("one's own", x.put(0, 0, 0), 0);
        D.due("free", x.put(0, 0, 9), 0);
        D.due("left", x.put(1, 0, 0), 1);
        D.due("came", x.put(0, 0, 3), 9);
        D.due("swing 12", x.put(0, 1, 12), -7);
        D.due("swing -1", x.put(0, 1, -1), -7);
        D.due("swing 11", x.put(0, 1, 11), 5);
        D.due("swing 0", x.put(0, 1, 0), 11);
        D.due("tired 100", x.put(0, 2, 100), -7);
        D.due("tired -1", x.put(0, 2, -1), -7);
        D.due("tired 99", x.put(0, 2, 99), 0);
        D.due("tired 0", x.put(0, 2, 0), 99);
        for (int bad : new int[] {-1, 3, 4, MIN, MAX}) {
            D.due("what " + bad, x.put(0, bad, 1), -7);
        }
        D.due("place", x.told(0, 0), 3);
        D.due("the other one stays", x.told(1, 0), 0);
    }

    /** By the law swings 4, tires 7, keeps 2, unless told: beat 5, stroke 1. */
    private static void toldOfKinds() {
        ScythesKeepStep x = new ScythesKeepStep();
        x.sets(0, 9);
        x.sets(1, 5);
        x.sets(3, 1);
        x.force(Due.textOf(x, "swings 4;tires 7;keeps 2;"));
        for (int kind = 0; kind < 6; kind++) {
            x.mower(10 * kind + 8, 100 * kind + 3);
        }
        int[] keeps = {2, 5, 2, 11, 8, 2};
        int[] swings = {4, 5, 6, 5, 11, 11};
        int[] tires = {7, 7, 14, -1, 14, -1};
        for (int m = 0; m < 6; m++) {
            D.due("keeps of kind " + m, x.told(m, 5), keeps[m]);
            D.due("swings of kind " + m, x.told(m, 6), swings[m]);
            D.due("tires of kind " + m, x.told(m, 7), tires[m]);
            D.due("no clash of kind " + m, x.told(m, 8), 0);
            D.due("not in step " + m, x.told(m, 9), 0);
            x.put(m, 2, 99);
            D.due("swings, tired by 99, of kind " + m, x.told(m, 6), swings[m]);
            x.put(m, 2, 0);
        }
        toldInStep(x);
        toldInAClash(x);
    }

    private static void toldInStep(ScythesKeepStep x) {
        for (int m = 0; m < 6; m++) {
            x.put(m, 1, 5);
        }
        int[] swings = {4, 4, 6, 5, 11, 9};
        for (int m = 0; m < 6; m++) {
            D.due("swings of kind " + m + ", in step", x.told(m, 6), swings[m]);
            D.due("in step " + m, x.told(m, 9), 1);
        }
        x.put(3, 1, 11);
        D.due("the father where he keeps", x.told(3, 6), 4);
        x.put(3, 1, 5);
        x.sets(3, 10);
        D.due("the whistler every fifth stroke", x.told(5, 6), 0);
        x.sets(3, 11);
        D.due("the whistler else", x.told(5, 6), 9);
        x.put(5, 1, 2);
        D.due("the whistler where he keeps", x.told(5, 6), 0);
    }

    private static void toldInAClash(ScythesKeepStep x) {
        int[] tires = {12, 12, 24, 4, 24, -1};
        for (int m = 0; m < 6; m++) {
            x.put(m, 1, m % 2 == 0 ? 2 : 8);
        }
        for (int m = 0; m < 6; m++) {
            D.due("a clash of kind " + m, x.told(m, 8), 1);
            D.due("tires of kind " + m + ", in a clash", x.told(m, 7), tires[m]);
        }
    }

    private static void toldRefuses() {
        ScythesKeepStep x = new ScythesKeepStep();
        D.due("nobody", x.told(0, 0), -5000);
        x.mower(0, 0);
        D.due("-5000 ahead of -7000", x.told(1, 10), -5000);
        D.due("mower -1", x.told(-1, 0), -5000);
        for (int bad : new int[] {-1, 10, MIN, MAX}) {
            D.due("what " + bad, x.told(0, bad), -7000);
        }
    }

    private static void leftAndRight() {
        ScythesKeepStep x = new ScythesKeepStep();
        x.force(Due.textOf(x, "swings left;tires right;keeps tired + more;"));
        x.sets(0, 4);
        x.sets(1, 10);
        x.mower(3, 7);
        x.mower(0, 101);
        x.mower(0, 303);
        x.mower(0, 905);
        int[] left = {7, 7, 3, 5};
        int[] right = {1, 1, 10, 5};
        for (int m = 0; m < 4; m++) {
            D.due("left of " + m, x.asks(0, m), left[m]);
            D.due("right of " + m, x.asks(1, m), right[m]);
        }
        D.due("a clash with the left", x.told(1, 8), 1);
        D.due("a clash with the right", x.told(0, 8), 1);
        D.due("alone at the end", x.told(3, 8), 0);
        D.due("seven away from the gap", x.told(2, 8), 0);
        x.sets(1, 9);
        D.due("a clash with the absent", x.told(2, 8), 1);
        x.put(1, 1, 10);
        x.sets(0, 2);
        x.sets(1, 1);
        D.due("left and right alone differ by six", x.told(1, 8), 0);
        x.sets(1, 9);
        x.sets(0, 4);
        x.put(0, 2, 6);
        D.due("tired and more", x.asks(2, 0), 9);
        x.sets(0, 8);
        D.due("the gap to the left", x.asks(0, 3), 9);
        D.due("nobody there any more", x.asks(1, 2), 3);
    }

    private static void bounds() {
        ScythesKeepStep x = new ScythesKeepStep();
        for (int kind = 0; kind < 6; kind++) {
            x.mower(10 * kind + 9, 300 + 100 * kind + 1);
        }
        x.put(0, 0, 0);
        x.sets(3, 1);
        x.force(Due.textOf(x, "swings 12;tires 100;keeps 9999;"));
        int[] tires = {99, 99, 198, 90, 198, -1};
        int[] keeps = {11, 0, 11, 6, 9, 11};
        int[] whole = {11, 11, 11, 11, 11, 10};
        for (int m = 0; m < 6; m++) {
            D.due("swings at most", x.told(m, 6), whole[m]);
            D.due("tires at most", x.told(m, 7), tires[m]);
            D.due("keeps at most", x.told(m, 5), keeps[m]);
            D.due("the text's swings at most", x.asks(0, m), 11);
            D.due("the text's tires at most", x.asks(1, m), 99);
            D.due("the text's keeps at most", x.asks(2, m), 11);
        }
        x.force(Due.textOf(x, "swings -1;tires -100;keeps -1;"));
        int[] least = {-99, -99, -198, -108, -198, -1};
        int[] swings = {0, 1, 3, 1, 6, 11};
        for (int m = 0; m < 6; m++) {
            D.due("swings at least", x.told(m, 6), swings[m]);
            D.due("tires at least", x.told(m, 7), least[m]);
            D.due("the text's tires at least", x.asks(1, m), -99);
            D.due("the text's keeps at least", x.asks(2, m), 0);
        }
    }
}
