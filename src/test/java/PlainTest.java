import java.lang.reflect.Method;
import java.util.ArrayList;
import java.util.Arrays;
import java.util.HashMap;
import java.util.List;
import java.util.Map;
import java.util.Random;

/** All promises: runs of calls by a fixed seed, with fitting and wild arguments, held against a second reading. */
public final class PlainTest {
    private static final Due D = new Due();
    private static final int RUNS = 300;
    private static final Map<String, Method> CALLS = new HashMap<>();
    private static final List<String> OFTEN = List.of("stroke", "told", "run", "put", "mower", "film", "judge", "kinds",
        "states", "weary", "laws", "whose", "sets", "cell", "asks", "mowersBy", "copy", "force");
    private static final int[] EDGES = {Integer.MIN_VALUE, Integer.MAX_VALUE, -1, -2, 0, 1, 5, 6, 9, 10, 11, 12, 19, 20,
        21, 25, 26, 39, 40, 41, 59, 60, 61, 99, 100, 255, 256, 999, 1000, 9999, 10000, 99999, 100000, 1 << 30};

    private final Random random;
    private final ScythesKeepStep real = new ScythesKeepStep();
    private final Plain plain = new Plain();

    private PlainTest(int seed) {
        random = new Random(seed);
    }

    public static void main(String[] args) throws Exception {
        for (Method m : ScythesKeepStep.class.getDeclaredMethods()) {
            if (java.lang.reflect.Modifier.isPublic(m.getModifiers())) {
                CALLS.put(m.getName(), m);
            }
        }
        for (int run = 0; run < RUNS; run++) {
            new PlainTest(run).run(run);
        }
        D.end();
    }

    private void run(int run) throws Exception {
        List<String> names = new ArrayList<>(new java.util.TreeSet<>(CALLS.keySet()));
        int calls = 0;
        for (int i = random.nextInt(7); i > 0; i--) {
            calls += both(run, "mower", fitting("mower"));
        }
        while (calls < 512) {
            if (random.nextInt(25) == 0) {
                calls += aText(run);
                continue;
            }
            boolean often = random.nextInt(2) == 0;
            String name = often ? OFTEN.get(random.nextInt(OFTEN.size())) : names.get(random.nextInt(names.size()));
            int[] args = fitting(name);
            if (random.nextInt(12) == 0 && args.length > 0) {
                args[random.nextInt(args.length)] = EDGES[random.nextInt(EDGES.length)];
            }
            calls += both(run, name, args);
        }
    }

    private int both(int run, String name, int... args) throws Exception {
        Object[] boxed = Arrays.stream(args).boxed().toArray();
        long answer = ((Number) CALLS.get(name).invoke(real, boxed)).longValue();
        D.due("run " + run + ": " + name + Arrays.toString(args), answer, plain.call(name, args));
        return 1;
    }

    private int aText(int run) throws Exception {
        StringBuilder text = new StringBuilder();
        text.append("swings ").append(expression(3)).append(";tires ").append(expression(3)).append(" ;keeps ");
        text.append(expression(2)).append(" ; ");
        if (random.nextInt(3) == 0) {
            spoil(text);
        }
        int calls = 0;
        for (int i = 0; i < text.length(); i += 5) {
            int[] a = new int[6];
            a[0] = Math.min(5, text.length() - i);
            for (int k = 0; k < a[0]; k++) {
                a[k + 1] = text.charAt(i + k);
            }
            calls += both(run, "feed", a);
        }
        calls += both(run, "text");
        return calls + both(run, "force", random.nextInt(6));
    }

    private void spoil(StringBuilder text) {
        int at = random.nextInt(text.length());
        switch (random.nextInt(4)) {
            case 0 -> text.deleteCharAt(at);
            case 1 -> text.setLength(at);
            case 2 -> text.insert(at, " (-not+<;)12345or".charAt(random.nextInt(17)));
            default -> text.setCharAt(at, (char) random.nextInt(256));
        }
    }

    private String expression(int deep) {
        String a = deep == 0 ? "" : expression(deep - 1);
        String b = deep == 0 ? "" : expression(deep - 1);
        String[] names = {"beat", "swing", "left", "right", "tired", "more"};
        return switch (deep == 0 ? random.nextInt(2) : random.nextInt(14)) {
            case 0 -> names[random.nextInt(6)];
            case 1 -> String.valueOf(random.nextInt(random.nextInt(10) == 0 ? 20000 : 12));
            case 2, 3 -> a + "+" + b;
            case 4 -> a + " - " + b;
            case 5 -> a + "*" + b;
            case 6 -> "(" + a + ")";
            case 7 -> "-" + a;
            case 8 -> "not " + a;
            case 9 -> a + " and " + b;
            case 10 -> a + " or " + b;
            case 11 -> a + "<" + b;
            case 12 -> "(" + a + "=" + b + ")";
            default -> "(" + a + " - " + b + ")*" + random.nextInt(4);
        };
    }

    private int upTo(int most) {
        return random.nextInt(most + 1);
    }

    private int[] fitting(String name) {
        int m = upTo(5);
        int s = upTo(3);
        return switch (name) {
            case "count", "row" -> new int[] {upTo(4)};
            case "sets" -> setting();
            case "feed" -> new int[] {1, 32, 32, 32, 32, 32};
            case "text", "stroke", "image", "back" -> new int[0];
            case "force" -> new int[] {upTo(5)};
            case "asks" -> new int[] {upTo(2), m};
            case "mower" -> new int[] {upTo(59), 100 * upTo(9) + upTo(11)};
            case "put" -> putting(m);
            case "told" -> new int[] {m, upTo(9)};
            case "run" -> new int[] {upTo(60), new int[] {0, 1, 2, 3, 10 + m, 20 + m}[upTo(5)]};
            case "when" -> new int[] {upTo(2)};
            case "often" -> new int[] {m, upTo(60), upTo(1)};
            case "gap", "tempo" -> new int[] {upTo(40), upTo(1)};
            case "stands" -> new int[] {m, upTo(40), upTo(1)};
            case "order" -> new int[] {upTo(random.nextInt(4) == 0 ? 6 : 0), upTo(1)};
            case "mean" -> new int[] {upTo(60), upTo(1)};
            case "judge", "laws" -> new int[] {s, m};
            case "kinds", "weary" -> new int[] {s, m, upTo(1)};
            case "states" -> new int[] {s, m, upTo(3)};
            case "whose" -> new int[] {s};
            case "film" -> new int[] {s, m, upTo(random.nextBoolean() ? 20 : 3)};
            case "drawn" -> new int[] {upTo(99999), upTo(1)};
            case "odds" -> new int[] {upTo(99999), 1 + upTo(39), upTo(30), upTo(1)};
            case "sheet" -> new int[] {s, upTo(3) - 1, upTo(40)};
            case "cell" -> new int[] {s, upTo(20), cellNumber()};
            case "copy" -> new int[] {s, upTo(5), upTo(3), upTo(5), upTo(8)};
            case "mowersBy" -> new int[] {s, upTo(2), upTo(10), upTo(6)};
            case "taken" -> new int[] {upTo(11), upTo(6)};
            default -> throw new IllegalArgumentException(name);
        };
    }

    private int cellNumber() {
        return switch (upTo(2)) {
            case 0 -> upTo(59);
            case 1 -> 100 * upTo(9) + upTo(11);
            default -> random.nextInt();
        };
    }

    private int[] setting() {
        int what = upTo(4);
        int[] most = {9, 11, 11, 999, 9999};
        int v = random.nextInt(3) == 0 ? most[what] - upTo(Math.min(5, most[what])) : upTo(most[what]);
        return new int[] {what, v};
    }

    private int[] putting(int m) {
        int what = upTo(2);
        int[] most = {9, 11, 99};
        return new int[] {m, what, upTo(most[what])};
    }
}
