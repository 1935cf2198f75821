import java.util.Random;

/** A row from which an object can be made, and made again a little otherwise. */
final class Scene {
    static final int GAP = 0, BEAT = 1, PACE = 2, STROKE = 3, CUT = 4;
    static final int PLACE = 0, SWING = 1, TIRED = 2, KIND = 3, MORE = 4;
    private static final String[] TEXTS = {
        "swings 4+(left=right)+(swing<beat);tires 3-2*(tired<20);keeps right;",
        "swings 6*(tired<50)+more;tires 1+2*(left<swing);keeps beat+3*(left<6);",
        "swings left+right-beat+1;tires more-3;keeps swing+1;"};
    final int[] marks = new int[5];
    final int[][] mowers;
    int law;

    private Scene(int size) {
        mowers = new int[size][5];
    }

    /** So many mowers, by lots. */
    static Scene of(int size, Random random) {
        Scene scene = new Scene(size);
        int[] places = {0, 1, 2, 3, 4, 5, 6, 7, 8, 9};
        // Close together, so that they clash and see one another, but in some scenes.
        int wide = random.nextInt(3) == 0 ? 10 : size + 1;
        int first = random.nextInt(11 - wide);
        for (int i = 0; i <= size; i++) {
            int other = i + random.nextInt(wide - i);
            int place = places[first + other];
            places[first + other] = places[first + i];
            places[first + i] = place;
        }
        scene.marks[GAP] = places[first + size];
        scene.marks[BEAT] = random.nextInt(12);
        scene.marks[PACE] = random.nextInt(12);
        scene.marks[STROKE] = random.nextInt(900);
        scene.marks[CUT] = random.nextInt(9000);
        scene.law = random.nextInt(4);
        for (int m = 0; m < size; m++) {
            scene.mowers[m][PLACE] = places[first + m];
            scene.mowers[m][SWING] = random.nextInt(12);
            scene.mowers[m][TIRED] = random.nextInt(4) == 0 ? 99 - random.nextInt(4) : random.nextInt(100);
            scene.mowers[m][KIND] = random.nextInt(6);
            scene.mowers[m][MORE] = random.nextInt(10);
        }
        return scene;
    }

    Scene copy() {
        Scene other = new Scene(mowers.length);
        System.arraycopy(marks, 0, other.marks, 0, 5);
        for (int m = 0; m < mowers.length; m++) {
            System.arraycopy(mowers[m], 0, other.mowers[m], 0, 5);
        }
        other.law = law;
        return other;
    }

    /** The same, but for one mark. */
    Scene withMark(int mark, int v) {
        Scene other = copy();
        other.marks[mark] = v;
        return other;
    }

    /** The same, but for one thing of one mower. */
    Scene with(int m, int fact, int v) {
        Scene other = copy();
        other.mowers[m][fact] = v;
        return other;
    }

    Scene withLaw(int t) {
        Scene other = copy();
        other.law = t;
        return other;
    }

    int whoAt(int place) {
        for (int m = 0; m < mowers.length; m++) {
            if (mowers[m][PLACE] == place) {
                return m;
            }
        }
        return -1;
    }

    boolean isFreeFor(int m, int place) {
        return whoAt(place) == m || whoAt(place) < 0 && place != marks[GAP];
    }

    /** A new object, made by true calls alone: some 80. */
    ScythesKeepStep make() {
        ScythesKeepStep x = new ScythesKeepStep();
        for (String text : TEXTS) {
            feed(x, text);
            x.text();
        }
        x.force(law);
        for (int mark = 0; mark < 5; mark++) {
            x.sets(mark, marks[mark]);
        }
        for (int[] m : mowers) {
            int number = x.mower(10 * m[KIND] + m[MORE], 100 * m[PLACE] + m[SWING]);
            x.put(number, TIRED, m[TIRED]);
        }
        return x;
    }

    private static void feed(ScythesKeepStep x, String text) {
        for (int i = 0; i < text.length(); i += 5) {
            int[] b = new int[5];
            int n = Math.min(5, text.length() - i);
            for (int k = 0; k < n; k++) {
                b[k] = text.charAt(i + k);
            }
            x.feed(n, b[0], b[1], b[2], b[3], b[4]);
        }
    }
}
