import java.util.Random;

/**
 * What is asked in thought, "were it so now", is held against an object of which it is truly so, by true strokes: all
 * that the question does not speak of stays as it is. The rows are drawn by a fixed seed.
 */
public final class ThoughtTest {
    private static final Due D = new Due();
    private static final int SCENES = 84;
    private static final int[] STROKES = {0, 1, 2, 3, 7, 20, 40};

    private final Random random;
    private final Scene now;
    private final String name;

    private ThoughtTest(int seed) {
        random = new Random(seed);
        now = Scene.of(seed % 7, random);
        name = "scene " + seed + ": ";
    }

    public static void main(String[] args) {
        for (int seed = 0; seed < SCENES; seed++) {
            ThoughtTest test = new ThoughtTest(seed);
            test.runs();
            test.whens();
            test.often();
            test.best();
            test.order();
            test.mean();
            test.gusts();
            for (int m = 0; m < test.now.mowers.length; m++) {
                test.told(m);
            }
        }
        D.end();
    }

    private void due(String call, long got, long want) {
        D.due(name + call, got, want);
    }

    /** How much is cut by true strokes. */
    private static int cutBy(ScythesKeepStep x, int n) {
        int cut = 0;
        for (int i = 0; i < n; i++) {
            cut += x.stroke();
        }
        return cut;
    }

    private void runs() {
        for (int n : STROKES) {
            ScythesKeepStep x = now.make();
            ScythesKeepStep truth = now.make();
            due("13: run(" + n + ", 0)", x.run(n, 0), cutBy(truth, n));
            int steps = 0;
            int clashes = 0;
            for (int m = 0; m < now.mowers.length; m++) {
                steps |= truth.told(m, 9) << m;
                clashes |= truth.told(m, 8) << m;
                due("13: run(" + n + ", 1" + m + ")", x.run(n, 10 + m), truth.told(m, 1));
                due("13: run(" + n + ", 2" + m + ")", x.run(n, 20 + m), truth.told(m, 2));
            }
            due("13: run(" + n + ", 1)", x.run(n, 1), steps);
            due("13: run(" + n + ", 2)", x.run(n, 2), clashes);
            due("13: run(" + n + ", 3)", x.run(n, 3), truth.row(1));
        }
    }

    private void whens() {
        for (int what = 0; what < 3; what++) {
            ScythesKeepStep truth = now.make();
            int due = -1;
            for (int n = 0; n <= 60 && due < 0; n++) {
                if (n > 0) {
                    truth.stroke();
                }
                due = happens(truth, what) ? n : -1;
            }
            due("14: when(" + what + ")", now.make().when(what), due);
        }
    }

    private boolean happens(ScythesKeepStep x, int what) {
        if (what == 0) {
            return x.count(1) == now.mowers.length;
        }
        for (int m = 0; m < now.mowers.length; m++) {
            if (what == 1 ? x.told(m, 8) == 1 : x.told(m, 2) == 99) {
                return true;
            }
        }
        return false;
    }

    private void often() {
        for (int m = 0; m < now.mowers.length; m++) {
            ScythesKeepStep truth = now.make();
            int n = random.nextInt(61);
            int steps = 0;
            int clashes = 0;
            for (int i = 0; i < n; i++) {
                truth.stroke();
                steps += truth.told(m, 9);
                clashes += truth.told(m, 8);
            }
            due("15: often(" + m + ", " + n + ", 0)", now.make().often(m, n, 0), steps);
            due("15: often(" + m + ", " + n + ", 1)", now.make().often(m, n, 1), clashes);
        }
    }

    /** The first of the best, of what is offered from the least on. */
    private static final class First {
        int which = -1;
        int most = -1;

        void offer(int candidate, Scene scene, int n) {
            int cut = cutBy(scene.make(), n);
            if (cut > most) {
                which = candidate;
                most = cut;
            }
        }
    }

    private void best() {
        for (int n : STROKES) {
            First gap = new First();
            First tempo = new First();
            for (int v = 0; v < 12; v++) {
                if (v < 10 && now.whoAt(v) < 0) {
                    gap.offer(v, now.withMark(Scene.GAP, v), n);
                }
                tempo.offer(v, now.withMark(Scene.PACE, v), n);
            }
            due("16: gap(" + n + ", 0)", now.make().gap(n, 0), gap.which);
            due("16: gap(" + n + ", 1)", now.make().gap(n, 1), gap.most);
            due("18: tempo(" + n + ", 0)", now.make().tempo(n, 0), tempo.which);
            due("18: tempo(" + n + ", 1)", now.make().tempo(n, 1), tempo.most);
            for (int m = 0; m < now.mowers.length; m++) {
                First stands = new First();
                for (int p = 0; p < 10; p++) {
                    if (now.isFreeFor(m, p)) {
                        stands.offer(p, now.with(m, Scene.PLACE, p), n);
                    }
                }
                due("17: stands(" + m + ", " + n + ", 0)", now.make().stands(m, n, 0), stands.which);
                due("17: stands(" + m + ", " + n + ", 1)", now.make().stands(m, n, 1), stands.most);
            }
        }
    }

    private void order() {
        int n = random.nextInt(7);
        First first = new First();
        order(now.copy(), 0, 0, 0, n, first);
        due("19: order(" + n + ", 0)", now.make().order(n, 0), first.which);
        due("19: order(" + n + ", 1)", now.make().order(n, 1), first.most);
    }

    /** Seats all who aren't yet at the places taken from that place on, in all ways, by their digits upwards. */
    private void order(Scene scene, int place, int digits, int seated, int n, First first) {
        int p = place;
        while (p < 10 && now.whoAt(p) < 0) {
            p++;
        }
        if (p == 10) {
            first.offer(digits, scene, n);
            return;
        }
        for (int m = 0; m < now.mowers.length; m++) {
            if ((seated >> m & 1) == 0) {
                scene.mowers[m][Scene.PLACE] = p;
                order(scene, p + 1, 10 * digits + m + 1, seated | 1 << m, n, first);
            }
        }
    }

    private void mean() {
        int n = 1 + random.nextInt(60);
        long over = now.make().mean(n, 0);
        long under = now.make().mean(n, 1);
        if (now.mowers.length == 0) {
            due("20: mean(" + n + ", 0)", over, ScythesKeepStep.NO);
            due("20: mean(" + n + ", 1)", under, ScythesKeepStep.NO);
            return;
        }
        due("20: mean(" + n + ", 0) crosswise", over * n * now.mowers.length, under * cutBy(now.make(), n));
        due("20: mean(" + n + ", 1) in lowest terms", common(over, under), 1);
    }

    private static long common(long a, long b) {
        return b == 0 ? a : common(b, a % b);
    }

    private void gusts() {
        for (int seed : new int[] {0, 99999, random.nextInt(100000)}) {
            ScythesKeepStep truth = now.make();
            long lot = seed + 1;
            int cut = 0;
            for (int i = 0; i < 10; i++) {
                lot = lot * 48271 % 2147483647;
                int m = (int) (lot % 6);
                lot = lot * 48271 % 2147483647;
                if (m < now.mowers.length) {
                    truth.put(m, 1, (int) ((truth.told(m, 1) + lot) % 12));
                }
                cut += truth.stroke();
            }
            int steps = 0;
            for (int m = 0; m < now.mowers.length; m++) {
                steps |= truth.told(m, 9) << m;
            }
            ScythesKeepStep x = now.make();
            due("28: drawn(" + seed + ", 0)", x.drawn(seed, 0), cut);
            due("28: drawn(" + seed + ", 1)", x.drawn(seed, 1), steps);
            due("29: odds(" + seed + ", 1, " + cut + ", 0)", x.odds(seed, 1, cut, 0), 1);
            due("29: odds(" + seed + ", 1, " + (cut + 1) + ", 0)", x.odds(seed, 1, cut + 1, 0), 0);
        }
    }

    /** A sheet of what one would swing, were one thing of the row otherwise; then what of the row would be so. */
    private void told(int m) {
        for (int what = 0; what < 8; what++) {
            int n = random.nextInt(7);
            int[] told = swings(otherwise(m, what), m, n);
            if (n > 0 && random.nextInt(4) == 0) {
                told[random.nextInt(n)]++;
            }
            String call = " of " + m + " by " + java.util.Arrays.toString(told);
            ScythesKeepStep x = now.make();
            Due.tell(x, 2, told);
            due("21: judge" + call, x.judge(2, m), judged(now, m, told));
            toldOne(call, x, m, told);
            int whose = 0;
            int laws = 0;
            for (int k = 0; k < 6; k++) {
                whose |= k < now.mowers.length && judged(now, k, told) < 0 ? 1 << k : 0;
                laws |= k < 4 && judged(now.withLaw(k), m, told) < 0 ? 1 << k : 0;
            }
            due("25: whose" + call, x.whose(2), whose);
            due("26: laws" + call, x.laws(2, m), laws);
            films(m, x);
        }
    }

    private Scene otherwise(int m, int what) {
        return switch (what) {
            case 0 -> now.with(m, Scene.KIND, random.nextInt(6));
            case 1 -> now.with(m, Scene.MORE, random.nextInt(10));
            case 2 -> now.with(m, Scene.SWING, random.nextInt(12));
            case 3 -> now.with(m, Scene.TIRED, 99 - random.nextInt(3));
            case 4 -> now.withMark(Scene.BEAT, random.nextInt(12));
            case 5 -> now.withMark(Scene.PACE, random.nextInt(12));
            case 6 -> now.withLaw(random.nextInt(4));
            default -> now;
        };
    }

    private void toldOne(String call, ScythesKeepStep x, int m, int[] told) {
        int[] bits = new int[7];
        int weary = 0;
        int least = -1;
        for (int v = 99; v >= 0; v--) {
            bits[0] |= v < 6 && judged(now.with(m, Scene.KIND, v), m, told) < 0 ? 1 << v : 0;
            bits[1] |= v < 10 && judged(now.with(m, Scene.MORE, v), m, told) < 0 ? 1 << v : 0;
            boolean free = v < 10 && now.isFreeFor(m, v);
            bits[2] |= free && judged(now.with(m, Scene.PLACE, v), m, told) < 0 ? 1 << v : 0;
            bits[3] |= v < 12 && judged(now.with(m, Scene.SWING, v), m, told) < 0 ? 1 << v : 0;
            bits[4] |= v < 12 && judged(now.withMark(Scene.BEAT, v), m, told) < 0 ? 1 << v : 0;
            bits[5] |= v < 12 && judged(now.withMark(Scene.PACE, v), m, told) < 0 ? 1 << v : 0;
            if (judged(now.with(m, Scene.TIRED, v), m, told) < 0) {
                weary++;
                least = v;
            }
        }
        due("22: kinds" + call, x.kinds(2, m, 0), bits[0]);
        due("22: more" + call, x.kinds(2, m, 1), bits[1]);
        for (int what = 0; what < 4; what++) {
            due("23: states " + what + call, x.states(2, m, what), bits[2 + what]);
        }
        due("24: weary" + call, x.weary(2, m, 0), weary);
        due("24: least weary" + call, x.weary(2, m, 1), least);
    }

    private void films(int m, ScythesKeepStep x) {
        int n = random.nextInt(21);
        due("27: film of " + m, x.film(3, m, n), n);
        due("27: as it is told", x.judge(3, m), -1);
        due("27: n numbers", x.copy(3, 0, 3, 0, n), n);
        due("27: no more", x.copy(3, 0, 3, 0, n + 1), -12);
    }

    /** One's swing behind 1, .., n true strokes. */
    private static int[] swings(Scene scene, int m, int n) {
        ScythesKeepStep truth = scene.make();
        int[] swings = new int[n];
        for (int i = 0; i < n; i++) {
            truth.stroke();
            swings[i] = truth.told(m, 1);
        }
        return swings;
    }

    private static int judged(Scene scene, int m, int[] told) {
        int[] swings = swings(scene, m, told.length);
        for (int i = 0; i < told.length; i++) {
            if (swings[i] != told[i]) {
                return i;
            }
        }
        return -1;
    }
}
