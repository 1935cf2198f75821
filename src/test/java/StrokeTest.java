/** Promises 12 to 15: strokes, truly and in thought. */
public final class StrokeTest {
    private static final Due D = new Due();
    private static final int MIN = Integer.MIN_VALUE, MAX = Integer.MAX_VALUE;

    public static void main(String[] args) {
        nobodyThere();
        oneMower();
        toldAhead();
        tiredBy99();
        tiredIsBounded();
        cutIsBounded();
        strokesEnd();
        runs();
        runsRefuse();
        whens();
        oftens();
        D.end();
    }

    private static void nobodyThere() {
        ScythesKeepStep x = new ScythesKeepStep();
        x.sets(1, 10);
        D.due("nobody cuts", x.stroke(), 0);
        D.due("the beat goes round", x.row(1), 1);
        D.due("the pace stays", x.row(2), 3);
        D.due("a stroke more", x.row(3), 1);
        D.due("nothing cut", x.row(4), 0);
    }

    /** By the first text: 4 as he is in step, 3 ever after. */
    private static void oneMower() {
        ScythesKeepStep x = new ScythesKeepStep();
        x.mower(0, 500);
        int[] swings = {4, 7, 10, 1, 4, 7, 10, 1};
        int[] beats = {3, 6, 9, 0, 3, 6, 9, 0};
        int[] cuts = {0, 0, 0, 1, 0, 0, 0, 1};
        for (int i = 0; i < 8; i++) {
            D.due("cut by stroke " + i, x.stroke(), cuts[i]);
            D.due("swing behind " + i, x.told(0, 1), swings[i]);
            D.due("beat behind " + i, x.row(1), beats[i]);
            D.due("tired behind " + i, x.told(0, 2), i + 1);
        }
        D.due("cut", x.row(4), 2);
        D.due("strokes", x.row(3), 8);
        x.put(0, 1, 8);
        x.sets(1, 8);
        D.due("just round", x.stroke(), 1);
        D.due("at 0", x.told(0, 1), 0);
        x.put(0, 1, 8);
        D.due("just not round", x.stroke(), 0);
        D.due("at 11", x.told(0, 1), 11);
    }

    /** Each goes by what the other's swing was ahead of the stroke. */
    private static void toldAhead() {
        ScythesKeepStep x = new ScythesKeepStep();
        x.force(Due.textOf(x, "swings right;tires left;keeps 0;"));
        x.sets(0, 9);
        x.mower(0, 1);
        x.mower(0, 102);
        x.mower(0, 203);
        x.stroke();
        D.due("first", x.told(0, 1), 3);
        D.due("second", x.told(1, 1), 5);
        D.due("third", x.told(2, 1), 6);
        D.due("first tires", x.told(0, 2), 1);
        D.due("second tires", x.told(1, 2), 1);
        D.due("third tires", x.told(2, 2), 2);
    }

    private static void tiredBy99() {
        ScythesKeepStep x = new ScythesKeepStep();
        x.force(Due.textOf(x, "swings 5;tires -2;keeps 0;"));
        x.mower(0, 10);
        x.put(0, 2, 99);
        x.mower(59, 503);
        x.put(1, 2, 99);
        D.due("told, tired or not", x.told(0, 6), 5);
        D.due("nothing is cut", x.stroke(), 0);
        D.due("he stands", x.told(0, 1), 10);
        D.due("he rests", x.told(0, 2), 97);
        D.due("the whistler rests", x.told(1, 2), 98);
        D.due("he is back", x.stroke(), 2);
        D.due("he swings", x.told(0, 1), 3);
        D.due("the whistler keeps to 0", x.told(1, 1), 0);
    }

    private static void tiredIsBounded() {
        ScythesKeepStep x = new ScythesKeepStep();
        x.force(Due.textOf(x, "swings 1;tires 99 - 198 * (tired = 99);keeps 0;"));
        x.mower(29, 0);
        x.mower(0, 500);
        x.put(1, 2, 50);
        x.stroke();
        D.due("99 at most", x.told(0, 2), 99);
        D.due("99 at most, from 50", x.told(1, 2), 99);
        x.stroke();
        D.due("0 at least", x.told(0, 2), 0);
        D.due("just 0", x.told(1, 2), 0);
        x.put(1, 2, 99);
        x.stroke();
        D.due("0 from 99", x.told(1, 2), 0);
    }

    private static void cutIsBounded() {
        ScythesKeepStep x = new ScythesKeepStep();
        x.force(Due.textOf(x, "swings 11;tires 0;keeps 0;"));
        x.mower(0, 11);
        x.mower(0, 511);
        x.mower(0, 911);
        x.sets(4, 9997);
        D.due("three in thought", x.run(1, 0), 3);
        D.due("three truly", x.stroke(), 3);
        D.due("9999 at most", x.row(4), 9999);
        D.due("six more in thought", x.run(2, 0), 6);
        D.due("three more truly", x.stroke(), 3);
        D.due("still", x.row(4), 9999);
    }

    private static void strokesEnd() {
        ScythesKeepStep x = new ScythesKeepStep();
        x.mower(50, 508);
        x.sets(3, 998);
        D.due("stroke 998", x.stroke(), 1);
        D.due("stroke 999", x.row(3), 999);
        D.due("no more", x.stroke(), -3);
        D.due("it stays", x.row(3), 999);
        D.due("the beat stays", x.row(1), 3);
        D.due("the mower stays", x.told(0, 1), 0);
        D.due("in thought it goes on: 999", x.run(1, 10), 3);
        D.due("in thought it goes on: 1000 stands", x.run(2, 10), 3);
        D.due("in thought it goes on: 1001", x.run(3, 10), 9);
        D.due("in thought alone", x.row(3), 999);
        x.sets(3, 0);
        D.due("it may be set back", x.stroke(), 0);
    }

    private static void runs() {
        ScythesKeepStep x = new ScythesKeepStep();
        x.mower(0, 500);
        x.mower(0, 806);
        D.due("none", x.run(0, 0), 0);
        D.due("who is in step now", x.run(0, 1), 1);
        D.due("who clashes now", x.run(0, 2), 0);
        D.due("the beat now", x.run(0, 3), 0);
        D.due("a swing now", x.run(0, 11), 6);
        D.due("tired now", x.run(0, 20), 0);
        D.due("cut by 60", x.run(60, 0), 30);
        D.due("the beat behind 5", x.run(5, 3), 3);
        D.due("swing behind 5", x.run(5, 10), 4);
        D.due("the other's", x.run(5, 11), 9);
        D.due("tired behind 60", x.run(60, 20), 60);
        D.due("in thought alone", x.told(0, 1) + x.told(0, 2) + x.row(1) + x.row(3) + x.row(4), 0);
        x.put(1, 0, 6);
        D.due("both clash", x.run(0, 2), 3);
        x.sets(0, 4);
        x.sets(1, 6);
        D.due("both clash, one with the absent besides", x.run(0, 2), 3);
        x.put(1, 0, 8);
        D.due("one clashes with the absent", x.run(0, 2), 1);
        D.due("the other is in step", x.run(0, 1), 2);
    }

    private static void runsRefuse() {
        ScythesKeepStep x = new ScythesKeepStep();
        x.mower(0, 500);
        x.mower(0, 800);
        for (int n : new int[] {-1, 61, MIN, MAX}) {
            D.due("n " + n, x.run(n, 0), -2);
        }
        for (int what : new int[] {-1, 4, 9, 12, 16, 19, 22, 26, 30, MIN, MAX}) {
            D.due("what " + what, x.run(1, what), -2);
        }
        D.due("mower 1", x.run(0, 11), 0);
        D.due("mower 1, tired", x.run(0, 21), 0);
    }

    private static void whens() {
        ScythesKeepStep x = new ScythesKeepStep();
        D.due("nobody is in step", x.when(0), 0);
        D.due("nobody clashes", x.when(1), -1);
        D.due("nobody tires", x.when(2), -1);
        for (int what : new int[] {-1, 3, MIN, MAX}) {
            D.due("what " + what, x.when(what), -2);
        }
        x.mower(0, 500);
        D.due("in step now", x.when(0), 0);
        x.put(0, 1, 9);
        x.force(Due.textOf(x, "swings 4;tires 33;keeps 0;"));
        D.due("in step behind 3", x.when(0), 3);
        D.due("tired behind 3", x.when(2), 3);
        D.due("never clashes", x.when(1), -1);
        x.put(0, 2, 99);
        D.due("tired now", x.when(2), 0);
        x.put(0, 2, 0);
        x.mower(0, 600);
        D.due("all in step", x.when(0), -1);
        D.due("clash", x.when(1), -1);
        x.put(1, 1, 3);
        D.due("clash now", x.when(1), 0);
        x.force(Due.textOf(x, "swings 1 + 2*(swing=2);tires 1;keeps 0;"));
        x.put(0, 1, 0);
        x.put(1, 1, 4);
        D.due("clash behind", x.when(1), -1);
        x.put(1, 1, 8);
        D.due("clash behind 3", x.when(1), 3);
        x.put(0, 2, 39);
        x.put(0, 0, 9);
        x.put(1, 0, 0);
        D.due("60 is the last", x.when(2), 60);
        x.put(0, 2, 38);
        D.due("61 is beyond", x.when(2), -1);
    }

    private static void oftens() {
        ScythesKeepStep x = new ScythesKeepStep();
        D.due("nobody", x.often(0, 1, 0), -5);
        x.mower(0, 500);
        D.due("-5 ahead of -7", x.often(1, 61, 2), -5);
        D.due("mower -1", x.often(-1, 1, 0), -5);
        for (int n : new int[] {-1, 61, MIN, MAX}) {
            D.due("n " + n, x.often(0, n, 0), -7);
        }
        for (int what : new int[] {-1, 2, MIN, MAX}) {
            D.due("what " + what, x.often(0, 1, what), -7);
        }
        D.due("not counted ahead of any", x.often(0, 0, 0), 0);
        D.due("one more than he each time", x.often(0, 60, 0), 0);
        x.force(Due.textOf(x, "swings 4;tires 0;keeps 0;"));
        D.due("in step each twelfth", x.often(0, 60, 0), 5);
        D.due("the twelfth itself", x.often(0, 12, 0), 1);
        D.due("not the eleventh", x.often(0, 11, 0), 0);
        x.mower(0, 606);
        D.due("clashes always", x.often(0, 7, 1), 7);
        D.due("the other too", x.often(1, 60, 1), 60);
        D.due("behind none", x.often(1, 0, 1), 0);
    }
}
