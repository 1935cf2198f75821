/** Promises 16 to 20: what is best. */
public final class BestTest {
    private static final Due D = new Due();
    private static final int MIN = Integer.MIN_VALUE, MAX = Integer.MAX_VALUE;

    public static void main(String[] args) {
        gaps();
        stands();
        tempos();
        orders();
        means();
        refuse();
        D.end();
    }

    /** Who has the absent to the left swings 11, else 0. */
    private static ScythesKeepStep byTheLeft() {
        ScythesKeepStep x = new ScythesKeepStep();
        x.force(Due.textOf(x, "swings 11 * (not left = swing);tires 0;keeps 0;"));
        x.sets(1, 5);
        x.sets(2, 0);
        return x;
    }

    private static void gaps() {
        ScythesKeepStep x = byTheLeft();
        D.due("nobody: the first", x.gap(40, 0), 0);
        D.due("nobody: nothing", x.gap(40, 1), 0);
        x.mower(0, 411);
        D.due("to his left", x.gap(1, 0), 3);
        D.due("once", x.gap(1, 1), 1);
        D.due("six times of seven, then in step", x.gap(7, 1), 6);
        D.due("in step he stands", x.gap(40, 1), 6);
        D.due("none: the first", x.gap(0, 0), 0);
        x.mower(0, 2);
        D.due("the first where nobody is", x.gap(0, 0), 1);
        x.put(1, 0, 3);
        D.due("to the other's left", x.gap(7, 0), 2);
        D.due("the gap stays", x.row(0), 2);
        x.put(1, 0, 9);
        x.mower(0, 211 + 600);
        D.due("now the gap is best where it is not", x.gap(1, 0), 3);
        x = byTheLeft();
        x.mower(0, 311);
        D.due("the gap itself may be best", x.gap(1, 0), 2);
        x = byTheLeft();
        x.force(Due.textOf(x, "swings 11 * (not right = swing);tires 0;keeps 0;"));
        x.mower(0, 811);
        D.due("the last place", x.gap(1, 0), 9);
        x.mower(0, 11);
        x.put(0, 1, 5);
        D.due("not where the second one is", x.gap(1, 0), 1);
        x.mower(0, 111);
        D.due("nor the third", x.gap(1, 0), 2);
    }

    private static void stands() {
        ScythesKeepStep x = byTheLeft();
        D.due("nobody", x.stands(0, 1, 0), -5);
        x.mower(0, 711);
        D.due("to the right of the absent", x.stands(0, 1, 0), 3);
        D.due("once", x.stands(0, 1, 1), 1);
        D.due("of like ones the first", x.stands(0, 0, 0), 0);
        x.mower(0, 11);
        D.due("not where another one is", x.stands(0, 0, 0), 1);
        x.put(1, 0, 1);
        x.put(0, 0, 0);
        D.due("one's own", x.stands(0, 0, 0), 0);
        x.sets(0, 3);
        x.put(0, 0, 2);
        x.put(1, 0, 0);
        D.due("place 4 again", x.stands(0, 1, 0), 4);
        x.put(1, 0, 4);
        D.due("taken: elsewhere; the other one is to the right of the gap", x.stands(0, 1, 1), 1);
        D.due("the other one stays there", x.stands(1, 1, 0), 4);
        x.sets(0, 0);
        D.due("never in the gap", x.stands(0, 0, 0), 1);
        D.due("he stays", x.told(0, 0), 2);
        x.sets(0, 8);
        x.put(1, 0, 0);
        D.due("the last place", x.stands(0, 1, 0), 9);
    }

    private static void tempos() {
        ScythesKeepStep x = new ScythesKeepStep();
        D.due("nobody: the least", x.tempo(40, 0), 0);
        D.due("nobody: nothing", x.tempo(40, 1), 0);
        x.force(Due.textOf(x, "swings beat;tires 0;keeps 0;"));
        x.mower(0, 500);
        D.due("11 by the second", x.tempo(2, 1), 0);
        x.put(0, 1, 5);
        D.due("the least by which he comes round", x.tempo(2, 0), 7);
        D.due("once", x.tempo(2, 1), 1);
        D.due("the pace stays", x.row(2), 3);
        x.put(0, 1, 1);
        D.due("the most", x.tempo(2, 0), 11);
        D.due("none: the least", x.tempo(0, 0), 0);
    }

    private static void orders() {
        ScythesKeepStep x = byTheLeft();
        D.due("nobody", x.order(6, 0), 0);
        D.due("nobody: nothing", x.order(6, 1), 0);
        x.mower(0, 911);
        D.due("one", x.order(6, 0), 1);
        x.mower(0, 705);
        D.due("of like ones the first by digits", x.order(0, 0), 12);
        x.mower(0, 305);
        D.due("the first to the right of the gap", x.order(1, 0), 123);
        x.put(0, 1, 5);
        x.put(1, 1, 11);
        D.due("the second to the right of the gap", x.order(1, 0), 213);
        D.due("once", x.order(1, 1), 1);
        x.put(1, 1, 5);
        x.put(2, 1, 11);
        D.due("the third to the right of the gap", x.order(1, 0), 312);
        D.due("all stay", x.told(0, 0) * 100 + x.told(1, 0) * 10 + x.told(2, 0), 973);
        x.mower(0, 5);
        x.mower(0, 105);
        x.mower(0, 505);
        D.due("six: the third place is to the right of the gap", x.order(1, 0), 123456);
        x.put(5, 1, 11);
        x.put(2, 1, 5);
        D.due("six: the sixth is best there", x.order(1, 0), 126345);
        D.due("six at six strokes", x.order(6, 1), 6);
        x = new ScythesKeepStep();
        x.force(Due.textOf(x, "swings 11 * (swing < left);tires 0;keeps 0;"));
        x.sets(0, 9);
        for (int m = 0; m < 6; m++) {
            x.mower(0, 100 * m + 6 + m);
        }
        D.due("the last of all ways", x.order(1, 0), 654321);
        D.due("all but one cut", x.order(1, 1), 5);
    }

    private static void means() {
        ScythesKeepStep x = new ScythesKeepStep();
        D.due("nobody", x.mean(1, 0), ScythesKeepStep.NO);
        x.force(Due.textOf(x, "swings 4;tires 0;keeps 0;"));
        x.mower(0, 500);
        D.due("of one alone above", x.mean(3, 0), 1);
        D.due("of one alone below", x.mean(3, 1), 3);
        x.mower(0, 800);
        D.due("none of two", x.mean(1, 0), 0);
        D.due("of one in lowest terms", x.mean(1, 1), 1);
        D.due("a third above", x.mean(3, 0), 1);
        D.due("a third below", x.mean(3, 1), 3);
        D.due("two in eight above", x.mean(4, 0), 1);
        D.due("two in eight below", x.mean(4, 1), 4);
        D.due("sixty", x.mean(60, 1), 3);
        x.put(0, 1, 8);
        D.due("one in two above", x.mean(1, 0), 1);
        D.due("one in two below", x.mean(1, 1), 2);
        for (int n : new int[] {0, -1, 61, MIN, MAX}) {
            D.due("mean n " + n, x.mean(n, 0), ScythesKeepStep.NO);
        }
        for (int part : new int[] {-1, 2, MIN, MAX}) {
            D.due("mean part " + part, x.mean(1, part), ScythesKeepStep.NO);
        }
    }

    private static void refuse() {
        ScythesKeepStep x = new ScythesKeepStep();
        x.mower(0, 500);
        for (int n : new int[] {-1, 41, MIN, MAX}) {
            D.due("gap n " + n, x.gap(n, 0), -2);
            D.due("stands n " + n, x.stands(0, n, 0), -7);
            D.due("tempo n " + n, x.tempo(n, 0), -2);
        }
        for (int n : new int[] {-1, 7, MIN, MAX}) {
            D.due("order n " + n, x.order(n, 0), -2);
        }
        for (int what : new int[] {-1, 2, MIN, MAX}) {
            D.due("gap what " + what, x.gap(1, what), -2);
            D.due("stands what " + what, x.stands(0, 1, what), -7);
            D.due("tempo what " + what, x.tempo(1, what), -2);
            D.due("order what " + what, x.order(1, what), -2);
        }
        D.due("stands: -5 ahead of -7", x.stands(1, 41, 2), -5);
        D.due("stands: mower -1", x.stands(-1, 1, 0), -5);
        D.due("gap at 40", x.gap(40, 1), 10);
        D.due("stands at 40", x.stands(0, 40, 1) >= 10 ? 1 : 0, 1);
        D.due("tempo at 40", x.tempo(40, 1) >= 10 ? 1 : 0, 1);
    }
}
