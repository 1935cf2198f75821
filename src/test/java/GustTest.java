/** Promises 28 to 31: gusts by lots, images. */
public final class GustTest {
    private static final Due D = new Due();
    private static final int MIN = Integer.MIN_VALUE, MAX = Integer.MAX_VALUE;

    public static void main(String[] args) {
        lots();
        drawnRefuses();
        odds();
        images();
        imagesKeepTheLaw();
        D.end();
    }

    /**
     * With a law by which all stand still, who is in step behind the ten strokes tells what the lots have added:
     * here once more from the lots themselves.
     */
    private static void lots() {
        for (int seed : new int[] {0, 1, 2, 7, 99999}) {
            ScythesKeepStep x = new ScythesKeepStep();
            x.force(Due.textOf(x, "swings 0;tires 0;keeps 0;"));
            x.sets(2, 0);
            x.sets(0, 9);
            for (int m = 0; m < 6; m++) {
                x.mower(0, 100 * m);
            }
            long[] swings = new long[6];
            long lot = seed + 1;
            for (int i = 0; i < 10; i++) {
                lot = lot * 48271 % 2147483647L;
                int who = (int) (lot % 6);
                lot = lot * 48271 % 2147483647L;
                swings[who] += lot;
            }
            D.due("no gust cuts, seed " + seed, x.drawn(seed, 0), 0);
            for (int beat = 0; beat < 12; beat++) {
                int bits = 0;
                for (int m = 0; m < 6; m++) {
                    bits |= swings[m] % 12 == beat ? 1 << m : 0;
                }
                x.sets(1, beat);
                D.due("seed " + seed + ", beat " + beat, x.drawn(seed, 1), bits);
            }
            D.due("in thought alone", x.told(0, 1), 0);
            D.due("no stroke", x.row(3), 0);
        }
        ScythesKeepStep x = new ScythesKeepStep();
        x.force(Due.textOf(x, "swings 6;tires 0;keeps 0;"));
        x.mower(0, 500);
        x.mower(0, 800);
        D.due("nothing truly", x.drawn(5, 0) > 0 && x.row(4) == 0 ? 1 : 0, 1);
    }

    private static void drawnRefuses() {
        ScythesKeepStep x = new ScythesKeepStep();
        for (int seed : new int[] {-1, 100000, MIN, MAX}) {
            D.due("seed " + seed, x.drawn(seed, 0), -2);
        }
        for (int what : new int[] {-1, 2, MIN, MAX}) {
            D.due("what " + what, x.drawn(0, what), -2);
        }
        D.due("nobody cuts", x.drawn(99999, 0), 0);
        D.due("nobody is in step", x.drawn(0, 1), 0);
    }

    private static void odds() {
        ScythesKeepStep x = new ScythesKeepStep();
        long no = ScythesKeepStep.NO;
        for (int seed : new int[] {-1, 100000, MIN, MAX}) {
            D.due("odds: seed " + seed, x.odds(seed, 1, 1, 0), no);
        }
        for (int seeds : new int[] {0, -1, 41, MIN, MAX}) {
            D.due("odds: seeds " + seeds, x.odds(0, seeds, 1, 0), no);
        }
        for (int least : new int[] {-1, 100, MIN, MAX}) {
            D.due("odds: least " + least, x.odds(0, 1, least, 0), no);
        }
        for (int part : new int[] {-1, 2, MIN, MAX}) {
            D.due("odds: part " + part, x.odds(0, 1, 1, part), no);
        }
        D.due("0 or more always", x.odds(99999, 40, 0, 0), 1);
        D.due("1 below", x.odds(99999, 40, 0, 1), 1);
        D.due("99 never", x.odds(0, 40, 99, 0), 0);
        D.due("1 below 0", x.odds(0, 40, 99, 1), 1);
        for (int m = 0; m < 6; m++) {
            x.mower(10 * m + m, 100 * (m + 3) + m);
        }
        int[] cuts = new int[40];
        for (int i = 0; i < 40; i++) {
            cuts[i] = x.drawn(300 + i, 0);
        }
        for (int least = 10; least < 24; least++) {
            int enough = 0;
            for (int cut : cuts) {
                enough += cut >= least ? 1 : 0;
            }
            int by = enough == 0 ? 40 : gcd(40, enough);
            D.due("above for " + least, x.odds(300, 40, least, 0), enough / by);
            D.due("below for " + least, x.odds(300, 40, least, 1), 40 / by);
        }
        D.due("seeds beyond 99999", x.odds(99999, 2, 0, 1), 1);
        D.due("one seed, as many", x.odds(300, 1, cuts[0], 0), 1);
        D.due("one seed, one more", x.odds(300, 1, cuts[0] + 1, 0), 0);
    }

    private static int gcd(int a, int b) {
        return b == 0 ? a : gcd(b, a % b);
    }

    private static void images() {
        ScythesKeepStep x = new ScythesKeepStep();
        D.due("there is none", x.back(), -3);
        x.mower(23, 505);
        x.mower(0, 706);
        x.stroke();
        D.due("kept", x.image(), 2);
        int[] marks = new int[5];
        int[] facts = new int[10];
        for (int i = 0; i < 10; i++) {
            facts[i] = x.told(0, i);
            if (i < 5) {
                marks[i] = x.row(i);
            }
        }
        x.mower(50, 900);
        x.put(0, 0, 1);
        x.put(0, 1, 11);
        x.put(0, 2, 77);
        int[] others = {8, 9, 7, 500, 5000};
        for (int i = 0; i < 5; i++) {
            x.sets(i, others[i]);
        }
        x.sheet(0, 0, 3);
        x.feed(2, 97, 97, 0, 0, 0);
        D.due("back", x.back(), 2);
        for (int i = 0; i < 10; i++) {
            D.due("told " + i, x.told(0, i), facts[i]);
            if (i < 5) {
                D.due("row " + i, x.row(i), marks[i]);
            }
        }
        D.due("who came since is none", x.told(2, 0), -5000);
        D.due("the sheet stays", x.cell(0, 2, 0), 1);
        D.due("the tape stays", x.count(4), 2);
        D.due("another one comes", x.mower(45, 900), 2);
        D.due("of another kind", x.told(2, 3), 4);
        x.stroke();
        D.due("back again", x.back(), 2);
        D.due("as it was", x.row(3), 1);
        x.stroke();
        D.due("another image", x.image(), 2);
        x.stroke();
        D.due("back to it", x.back(), 2);
        D.due("later", x.row(3), 2);
    }

    private static void imagesKeepTheLaw() {
        ScythesKeepStep x = new ScythesKeepStep();
        D.due("an image of nobody", x.image(), 0);
        x.mower(0, 500);
        x.force(Due.textOf(x, "swings 9;tires 1;keeps 1;"));
        D.due("nobody again", x.back(), 0);
        D.due("the law", x.count(3), 0);
        D.due("the text stays", x.count(2), 2);
        x.force(1);
        x.image();
        x.force(0);
        x.back();
        D.due("law 1", x.count(3), 1);
    }
}
