/** Promises 21 to 27: told strokes. */
public final class ToldTest {
    private static final Due D = new Due();
    private static final int MIN = Integer.MIN_VALUE, MAX = Integer.MAX_VALUE;

    public static void main(String[] args) {
        judges();
        kinds();
        states();
        wearies();
        whoseAndLaws();
        films();
        refuse();
        nothingChanges();
        D.end();
    }

    private static void judges() {
        ScythesKeepStep x = new ScythesKeepStep();
        x.mower(0, 500);
        Due.tell(x, 0, 4, 7, 10, 1, 4);
        D.due("as told", x.judge(0, 0), -1);
        x.cell(0, 4, 5);
        D.due("the last is otherwise", x.judge(0, 0), 4);
        x.cell(0, 0, 0);
        D.due("the first is otherwise", x.judge(0, 0), 0);
        x.cell(0, 0, 4 + 256);
        D.due("an int that is beyond", x.judge(0, 0), 0);
        x.sheet(1, 0, 1);
        x.cell(1, 0, 4 + 256);
        D.due("a byte is its lowest 8 bits", x.judge(1, 0), -1);
        x.sheet(1, 1, 1);
        x.cell(1, 0, 4 + 256);
        D.due("a short is more", x.judge(1, 0), 0);
        x.cell(1, 0, 4 - 65536);
        D.due("a short is its lowest 16 bits", x.judge(1, 0), -1);
        x.sheet(1, 2, 0);
        D.due("it tells nothing", x.judge(1, 0), -1);
        x.sheet(1, 2, 20);
        D.due("20", x.judge(1, 0), 0);
        x.sheet(1, 2, 21);
        D.due("21", x.judge(1, 0), -2);
    }

    private static void kinds() {
        ScythesKeepStep x = new ScythesKeepStep();
        x.force(Due.textOf(x, "swings 3;tires 0;keeps 5;"));
        x.sets(3, 1);
        x.mower(3, 500);
        Due.tell(x, 0, 3);
        D.due("mower, old in step; the father not, the lad 1 more", x.kinds(0, 0, 0), 1 | 2);
        Due.tell(x, 0, 4);
        D.due("lad, father", x.kinds(0, 0, 0), 4 | 8);
        Due.tell(x, 0, 8);
        D.due("hired", x.kinds(0, 0, 0), 16);
        Due.tell(x, 0, 5);
        D.due("whistler", x.kinds(0, 0, 0), 32);
        Due.tell(x, 0, 11);
        D.due("no kind", x.kinds(0, 0, 0), 0);
        D.due("no more", x.kinds(0, 0, 1), 0);
        Due.tell(x, 0, 3);
        D.due("any more for a mower", x.kinds(0, 0, 1), 1023);
        x.mower(22, 800);
        Due.tell(x, 0, 5);
        D.due("6, 7, 8 for a lad", x.kinds(0, 1, 1), 448);
        Due.tell(x, 0, 6);
        D.due("9 for a lad", x.kinds(0, 1, 1), 512);
        Due.tell(x, 0);
        D.due("all kinds by nothing told", x.kinds(0, 1, 0), 63);
        D.due("all more by nothing told", x.kinds(0, 1, 1), 1023);
    }

    private static void states() {
        ScythesKeepStep x = new ScythesKeepStep();
        x.force(Due.textOf(x, "swings left + right;tires 0;keeps 5;"));
        x.mower(0, 500);
        x.mower(0, 801);
        x.sets(1, 4);
        x.sets(2, 0);
        Due.tell(x, 0, 4);
        D.due("by him, to either side", x.states(0, 0, 0), 1 << 1 | 1 << 3);
        Due.tell(x, 0, 1);
        D.due("by the other one", x.states(0, 0, 0), 1 << 7 | 1 << 9);
        Due.tell(x, 0, 0);
        D.due("alone", x.states(0, 0, 0), 1 << 0 | 1 << 4 | 1 << 5 | 1 << 6);
        D.due("swings, alone", x.states(0, 0, 1), 1 | 1 << 4);
        D.due("any beat", x.states(0, 0, 2), 4095);
        D.due("any pace", x.states(0, 0, 3), 4095);
        x.put(0, 0, 3);
        Due.tell(x, 0, 4);
        D.due("beats", x.states(0, 0, 2), 1 << 4);
        D.due("any pace for one", x.states(0, 0, 3), 4095);
        Due.tell(x, 0, 4, 0, 4);
        D.due("the beat stays 4", x.states(0, 0, 3), 1);
        Due.tell(x, 0, 1);
        D.due("not where the gap is", x.states(0, 0, 0) & 4, 0);
        Due.tell(x, 0);
        D.due("free ones and one's own", x.states(0, 0, 0), 1023 - 4 - 256);
        D.due("the other's", x.states(0, 1, 0), 1023 - 4 - 8);
        D.due("all swings", x.states(0, 1, 1), 4095);
    }

    private static void wearies() {
        ScythesKeepStep x = new ScythesKeepStep();
        x.force(Due.textOf(x, "swings 1 + (40 < tired);tires 1;keeps 5;"));
        x.mower(0, 500);
        Due.tell(x, 0, 1);
        D.due("41", x.weary(0, 0, 0), 41);
        D.due("0", x.weary(0, 0, 1), 0);
        Due.tell(x, 0, 1, 3);
        D.due("one", x.weary(0, 0, 0), 1);
        D.due("40", x.weary(0, 0, 1), 40);
        Due.tell(x, 0, 2);
        D.due("58", x.weary(0, 0, 0), 58);
        D.due("41 is the least", x.weary(0, 0, 1), 41);
        Due.tell(x, 0, 0);
        D.due("99 alone", x.weary(0, 0, 0), 1);
        D.due("99", x.weary(0, 0, 1), 99);
        Due.tell(x, 0, 9);
        D.due("none", x.weary(0, 0, 0), 0);
        D.due("none is the least", x.weary(0, 0, 1), -1);
        Due.tell(x, 0);
        D.due("all", x.weary(0, 0, 0), 100);
    }

    private static void whoseAndLaws() {
        ScythesKeepStep x = new ScythesKeepStep();
        Due.tell(x, 0);
        D.due("nobody's", x.whose(0), 0);
        x.mower(0, 500);
        x.mower(0, 702);
        x.mower(0, 900);
        D.due("all by nothing told", x.whose(0), 7);
        Due.tell(x, 0, 5);
        D.due("of one", x.whose(0), 2);
        Due.tell(x, 0, 4, 7, 10, 1);
        D.due("of two", x.whose(0), 5);
        D.due("by the first text", x.laws(0, 0), 1);
        Due.textOf(x, "swings 3 + (tired = 0);tires 1;keeps 0;");
        Due.textOf(x, "swings 4;tires 1;keeps 0;");
        D.due("by the second, too", x.laws(0, 0), 3);
        x.force(2);
        D.due("nobody's by the law", x.whose(0), 0);
        D.due("whatever the law", x.laws(0, 0), 3);
        D.due("none for the other one", x.laws(0, 1), 0);
        D.due("the law stays", x.count(3), 2);
    }

    private static void films() {
        ScythesKeepStep x = new ScythesKeepStep();
        D.due("nobody", x.film(0, 0, 1), -5);
        x.mower(0, 500);
        D.due("sheet ahead of mower", x.film(4, 1, 21), -2);
        D.due("sheet -1", x.film(-1, 0, 1), -2);
        D.due("mower ahead of n", x.film(0, 1, 21), -5);
        for (int n : new int[] {-1, 21, MIN, MAX}) {
            D.due("n " + n, x.film(0, 0, n), -7);
        }
        D.due("still missing", x.judge(0, 0), -11);
        D.due("20", x.film(0, 0, 20), 20);
        D.due("as it comes", x.judge(0, 0), -1);
        D.due("of 20", x.cell(0, 19, 5), 1);
        D.due("not of 21", x.cell(0, 20, 5), -12);
        D.due("the last one", x.judge(0, 0), 19);
        D.due("5 again", x.film(0, 0, 5), 5);
        D.due("not of 6", x.cell(0, 5, 5), -12);
        D.due("bytes", x.mowersBy(0, 0, 0, 0), 0);
        D.due("bytes, no shorts", x.mowersBy(0, 1, 0, 0), -13);
        D.due("the last sheet", x.film(3, 0, 2), 2);
        D.due("as it comes there", x.whose(3), 1);
        x.sheet(1, 2, 5);
        D.due("in place of ints", x.film(1, 0, 0), 0);
        D.due("bytes of none", x.mowersBy(1, 0, 0, 0), 0);
        D.due("of none", x.cell(1, 0, 0), -12);
    }

    private static void refuse() {
        ScythesKeepStep x = new ScythesKeepStep();
        for (int s : new int[] {-1, 4, MIN, MAX}) {
            refuseAs(x, s, 0, 0, -2);
            refuseAs(x, s, 9, 9, -2);
            D.due("whose " + s, x.whose(s), -2);
        }
        refuseAs(x, 0, 9, 9, -11);
        D.due("whose missing", x.whose(0), -11);
        x.sheet(0, 2, 21);
        refuseAs(x, 0, 9, 9, -2);
        D.due("whose of 21", x.whose(0), -2);
        x.sheet(0, 2, 20);
        for (int m : new int[] {-1, 0, MIN, MAX}) {
            refuseAs(x, 0, m, 9, -5);
        }
        x.mower(0, 500);
        for (int what : new int[] {-1, 4, MIN, MAX}) {
            D.due("kinds of " + what, x.kinds(0, 0, what), -7);
            D.due("states of " + what, x.states(0, 0, what), -7);
            D.due("weary of " + what, x.weary(0, 0, what), -7);
        }
        D.due("kinds of 2", x.kinds(0, 0, 2), -7);
        D.due("weary of 2", x.weary(0, 0, 2), -7);
    }

    private static void refuseAs(ScythesKeepStep x, int s, int m, int what, int due) {
        String of = "(" + s + ", " + m + ", " + what + ")";
        D.due("judge" + of, x.judge(s, m), due);
        D.due("kinds" + of, x.kinds(s, m, what), due);
        D.due("states" + of, x.states(s, m, what), due);
        D.due("weary" + of, x.weary(s, m, what), due);
        D.due("laws" + of, x.laws(s, m), due);
    }

    private static void nothingChanges() {
        ScythesKeepStep x = new ScythesKeepStep();
        x.mower(43, 507);
        x.mower(34, 602);
        Due.textOf(x, "swings 1;tires 1;keeps 1;");
        x.film(0, 0, 20);
        x.whose(0);
        x.laws(0, 0);
        for (int i = 0; i < 4; i++) {
            x.kinds(0, 0, i);
            x.states(0, 0, i);
            x.weary(0, 0, i);
        }
        int[] due = {5, 7, 0, 4, 3, 6, 2, 0, 3, 34};
        for (int i = 0; i < 5; i++) {
            D.due("told " + i, x.told(0, i), due[i]);
        }
        int[] marks = {2, 0, 3, 0, 0};
        for (int i = 0; i < 5; i++) {
            D.due("row " + i, x.row(i), marks[i]);
        }
        D.due("law", x.count(3), 0);
        D.due("kind of the other", x.told(1, 3), 3);
    }
}
