import java.util.ArrayList;
import java.util.Arrays;
import java.util.HashMap;
import java.util.List;
import java.util.Map;
import java.util.function.IntPredicate;
import java.util.function.Predicate;
import java.util.regex.Matcher;
import java.util.regex.Pattern;

/**
 * A second reading of the document, for tests alone: slow, made of objects that are copied for every thought, with a
 * class for each kind and a tree for each text, so that it works in another way than the class it is held against.
 */
final class Plain {
    static final long NO = -4611686018427387904L;

    // ---- mowers, by their kinds

    static class Mower implements Cloneable {
        int more;
        int place;
        int swing;
        int tired;

        int swings(World w) {
            return w.law().swings(w, this);
        }

        int tires(World w) {
            return w.law().tires(w, this) + (w.clashes(this) ? 5 : 0);
        }

        int keeps(World w) {
            return w.law().keeps(w, this);
        }

        Mower copy() {
            try {
                return (Mower) clone();
            } catch (CloneNotSupportedException e) {
                throw new IllegalStateException(e);
            }
        }
    }

    static class Old extends Mower {
        @Override
        int swings(World w) {
            return Math.min(11, super.swings(w) + (keeps(w) != swing ? 1 : 0));
        }

        @Override
        int keeps(World w) {
            return w.beat;
        }
    }

    static class Lad extends Mower {
        @Override
        int swings(World w) {
            return Math.min(11, super.swings(w) + more / 3);
        }

        @Override
        int tires(World w) {
            return 2 * super.tires(w);
        }
    }

    static final class Father extends Old {
        @Override
        int tires(World w) {
            return super.tires(w) - more;
        }

        @Override
        int keeps(World w) {
            return (w.beat - 6 + 12) % 12;
        }
    }

    static final class Hired extends Lad {
        @Override
        int swings(World w) {
            return Math.min(11, 2 * super.swings(w));
        }

        @Override
        int keeps(World w) {
            return more;
        }
    }

    static final class Whistler extends Mower {
        @Override
        int swings(World w) {
            int way = 0;
            if (w.stroke % 5 == 0) {
                return 0;
            }
            for (int s = swing; s != keeps(w); s = (s + 1) % 12) {
                way++;
            }
            return way;
        }

        @Override
        int tires(World w) {
            return -1;
        }
    }

    private static final List<Class<? extends Mower>> KINDS =
        List.of(Mower.class, Old.class, Lad.class, Father.class, Hired.class, Whistler.class);

    static Mower made(int kind) {
        return switch (kind) {
            case 0 -> new Mower();
            case 1 -> new Old();
            case 2 -> new Lad();
            case 3 -> new Father();
            case 4 -> new Hired();
            default -> new Whistler();
        };
    }

    static Mower likeButOfKind(Mower m, int kind) {
        Mower other = made(kind);
        other.more = m.more;
        other.place = m.place;
        other.swing = m.swing;
        other.tired = m.tired;
        return other;
    }

    // ---- the world

    static final class World {
        int gap = 2;
        int beat;
        int pace = 3;
        int stroke;
        int cut;
        int lawNumber;
        List<Mower> mowers = new ArrayList<>();
        List<Law> laws;

        World copy() {
            World w = new World();
            w.gap = gap;
            w.beat = beat;
            w.pace = pace;
            w.stroke = stroke;
            w.cut = cut;
            w.lawNumber = lawNumber;
            w.laws = laws;
            for (Mower m : mowers) {
                w.mowers.add(m.copy());
            }
            return w;
        }

        Law law() {
            return laws.get(lawNumber);
        }

        Mower at(int place) {
            for (Mower m : mowers) {
                if (m.place == place) {
                    return m;
                }
            }
            return null;
        }

        int seen(int place, int own) {
            if (place == gap) {
                return beat;
            }
            return at(place) == null ? own : at(place).swing;
        }

        int left(Mower m) {
            return seen(m.place - 1, m.swing);
        }

        int right(Mower m) {
            return seen(m.place + 1, m.swing);
        }

        boolean clashes(Mower m) {
            int l = m.swing - left(m);
            int r = m.swing - right(m);
            return l == 6 || l == -6 || r == 6 || r == -6;
        }

        boolean inStep(Mower m) {
            return m.swing == beat;
        }

        int bits(Predicate<Mower> such) {
            int bits = 0;
            for (int i = 0; i < mowers.size(); i++) {
                bits += such.test(mowers.get(i)) ? 1 << i : 0;
            }
            return bits;
        }

        int goesOn() {
            List<Integer> far = new ArrayList<>();
            List<Integer> load = new ArrayList<>();
            for (Mower m : mowers) {
                far.add(m.tired == 99 ? 0 : m.swings(this));
                load.add(m.tires(this));
            }
            int fresh = 0;
            for (int i = 0; i < mowers.size(); i++) {
                Mower m = mowers.get(i);
                m.swing += far.get(i);
                if (m.swing > 11) {
                    m.swing -= 12;
                    fresh++;
                }
                m.tired += load.get(i);
                m.tired = m.tired < 0 ? 0 : m.tired > 99 ? 99 : m.tired;
            }
            beat = (beat + pace) % 12;
            stroke++;
            cut = Math.min(9999, cut + fresh);
            return fresh;
        }

        int goesOn(int n) {
            int all = 0;
            for (int i = 0; i < n; i++) {
                all += goesOn();
            }
            return all;
        }

        int gusts(int seed) {
            java.math.BigInteger lot = java.math.BigInteger.valueOf(seed + 1);
            java.math.BigInteger by = java.math.BigInteger.valueOf(48271);
            java.math.BigInteger round = java.math.BigInteger.valueOf(2147483647);
            int all = 0;
            for (int i = 0; i < 10; i++) {
                lot = lot.multiply(by).mod(round);
                int who = lot.mod(java.math.BigInteger.valueOf(6)).intValue();
                lot = lot.multiply(by).mod(round);
                if (who < mowers.size()) {
                    Mower m = mowers.get(who);
                    m.swing = (m.swing + lot.mod(java.math.BigInteger.valueOf(12)).intValue()) % 12;
                }
                all += goesOn();
            }
            return all;
        }
    }

    // ---- texts

    interface Expression {
        int of(World w, Mower m);
    }

    record Law(List<Expression> parts) {
        int part(int part, World w, Mower m) {
            int v = parts.get(part).of(w, m);
            if (part == 1) {
                return v > 99 ? 99 : v < -99 ? -99 : v;
            }
            return v > 11 ? 11 : v < 0 ? 0 : v;
        }

        int swings(World w, Mower m) {
            return part(0, w, m);
        }

        int tires(World w, Mower m) {
            return part(1, w, m);
        }

        int keeps(World w, Mower m) {
            return part(2, w, m);
        }
    }

    static final class Fault extends Exception {
        private static final long serialVersionUID = 1;
        final int place;

        Fault(int place) {
            this.place = place;
        }
    }

    record Token(String text, int place) { }

    /** Holds all tokens ahead, and a bracket, a not, a minus on a stack while they are open. */
    static final class Parser {
        private static final List<String> WORDS = List.of("swings", "tires", "keeps", "or", "and", "not", "beat",
            "swing", "left", "right", "tired", "more");
        private final List<Token> tokens = new ArrayList<>();
        private final List<String> open = new ArrayList<>();
        private int next;

        Parser(String text) {
            Matcher m = Pattern.compile("[a-z]+|[0-9]+|[();+*<=-]|[^ \\n]").matcher(text);
            while (m.find()) {
                boolean word = Character.isLetter(m.group().charAt(0)) && m.group().charAt(0) < 128;
                boolean digits = m.group().matches("[0-9]+");
                boolean sign = "();+*<=-".contains(m.group());
                boolean fine = sign || digits && m.group().length() < 5 || word && WORDS.contains(m.group());
                tokens.add(new Token(fine ? m.group() : "?", m.start()));
            }
            tokens.add(new Token("", text.length()));
        }

        Law law() throws Fault {
            List<Expression> parts = new ArrayList<>();
            for (String word : List.of("swings", "tires", "keeps")) {
                must(word);
                parts.add(or());
                must(";");
            }
            must("");
            return new Law(parts);
        }

        private boolean is(String... texts) {
            return Arrays.asList(texts).contains(tokens.get(next).text());
        }

        private String step() {
            return tokens.get(next++).text();
        }

        private void must(String text) throws Fault {
            if (!is(text)) {
                throw new Fault(tokens.get(next).place());
            }
            next++;
        }

        private void opens() throws Fault {
            if (open.size() == 5) {
                throw new Fault(tokens.get(next).place());
            }
            open.add(step());
        }

        private void closes() {
            open.remove(open.size() - 1);
        }

        private Expression or() throws Fault {
            Expression a = and();
            while (is("or")) {
                next++;
                Expression l = a;
                Expression r = and();
                a = (w, m) -> l.of(w, m) != 0 ? 1 : r.of(w, m) != 0 ? 1 : 0;
            }
            return a;
        }

        private Expression and() throws Fault {
            Expression a = not();
            while (is("and")) {
                next++;
                Expression l = a;
                Expression r = not();
                a = (w, m) -> l.of(w, m) == 0 ? 0 : r.of(w, m) == 0 ? 0 : 1;
            }
            return a;
        }

        private Expression not() throws Fault {
            if (is("not")) {
                opens();
                Expression of = not();
                closes();
                return (w, m) -> of.of(w, m) == 0 ? 1 : 0;
            }
            Expression a = sum();
            if (is("<")) {
                next++;
                Expression b = sum();
                return (w, m) -> a.of(w, m) < b.of(w, m) ? 1 : 0;
            }
            if (is("=")) {
                next++;
                Expression b = sum();
                return (w, m) -> a.of(w, m) == b.of(w, m) ? 1 : 0;
            }
            return a;
        }

        private Expression sum() throws Fault {
            Expression a = term();
            while (is("+", "-")) {
                boolean plus = step().equals("+");
                Expression l = a;
                Expression r = term();
                a = (w, m) -> plus ? l.of(w, m) + r.of(w, m) : l.of(w, m) - r.of(w, m);
            }
            return a;
        }

        private Expression term() throws Fault {
            Expression a = one();
            while (is("*")) {
                next++;
                Expression l = a;
                Expression r = one();
                a = (w, m) -> l.of(w, m) * r.of(w, m);
            }
            return a;
        }

        private Expression one() throws Fault {
            if (is("-")) {
                opens();
                Expression of = one();
                closes();
                return (w, m) -> -of.of(w, m);
            }
            if (is("(")) {
                opens();
                Expression of = or();
                must(")");
                closes();
                return of;
            }
            String t = tokens.get(next).text();
            if (t.matches("[0-9]+")) {
                next++;
                int v = Integer.parseInt(t);
                return (w, m) -> v;
            }
            Expression name = switch (t) {
                case "beat" -> (w, m) -> w.beat;
                case "swing" -> (w, m) -> m.swing;
                case "left" -> (w, m) -> w.left(m);
                case "right" -> (w, m) -> w.right(m);
                case "tired" -> (w, m) -> m.tired;
                case "more" -> (w, m) -> m.more;
                default -> throw new Fault(tokens.get(next).place());
            };
            next++;
            return name;
        }
    }

    // ---- the host's rows

    static final class Rows {
        final int sort;
        final int[] v;

        Rows(int sort, int n) {
            this.sort = sort;
            this.v = new int[n];
        }

        void put(int i, int value) {
            v[i] = sort == 0 ? (byte) value : sort == 1 ? (short) value : value;
        }
    }

    // ---- the face

    private World now = new World();
    private World kept;
    private final List<Law> laws = new ArrayList<>();
    private final StringBuilder tape = new StringBuilder();
    private final Map<Integer, Rows> sheets = new HashMap<>();

    Plain() {
        now.laws = laws;
        tape.append("swings 3 + (beat = swing) ; tires 1 ; keeps beat ; ");
        text();
    }

    long call(String name, int... a) {
        return switch (name) {
            case "count" -> count(a[0]);
            case "sets" -> sets(a[0], a[1]);
            case "row" -> row(a[0]);
            case "feed" -> feed(a);
            case "text" -> text();
            case "force" -> force(a[0]);
            case "asks" -> asks(a[0], a[1]);
            case "mower" -> mower(a[0], a[1]);
            case "put" -> put(a[0], a[1], a[2]);
            case "told" -> told(a[0], a[1]);
            case "stroke" -> now.stroke == 999 ? -3 : now.goesOn();
            case "run" -> run(a[0], a[1]);
            case "when" -> when(a[0]);
            case "often" -> often(a[0], a[1], a[2]);
            case "gap" -> gap(a[0], a[1]);
            case "stands" -> stands(a[0], a[1], a[2]);
            case "tempo" -> tempo(a[0], a[1]);
            case "order" -> order(a[0], a[1]);
            case "mean" -> mean(a[0], a[1]);
            case "judge" -> judged(a[0], a[1], true, () -> first(now.copy(), a[1], sheets.get(a[0])));
            case "kinds" -> judged(a[0], a[1], a[2] == 0 || a[2] == 1, () -> kinds(a[0], a[1], a[2]));
            case "states" -> judged(a[0], a[1], a[2] >= 0 && a[2] < 4, () -> states(a[0], a[1], a[2]));
            case "weary" -> judged(a[0], a[1], a[2] == 0 || a[2] == 1, () -> weary(a[0], a[1], a[2]));
            case "whose" -> whose(a[0]);
            case "laws" -> judged(a[0], a[1], true, () -> laws(a[0], a[1]));
            case "film" -> film(a[0], a[1], a[2]);
            case "drawn" -> drawn(a[0], a[1]);
            case "odds" -> odds(a[0], a[1], a[2], a[3]);
            case "image" -> image();
            case "back" -> back();
            case "sheet" -> sheet(a[0], a[1], a[2]);
            case "cell" -> cell(a[0], a[1], a[2]);
            case "copy" -> copy(a[0], a[1], a[2], a[3], a[4]);
            case "mowersBy" -> mowersBy(a[0], a[1], a[2], a[3]);
            case "taken" -> taken(a[0], a[1]);
            default -> throw new IllegalArgumentException(name);
        };
    }

    private static boolean in(int v, int from, int to) {
        return from <= v && v <= to;
    }

    private boolean some(int m) {
        return in(m, 0, now.mowers.size() - 1);
    }

    private boolean free(int place) {
        return in(place, 0, 9) && place != now.gap && now.at(place) == null;
    }

    private int count(int what) {
        return switch (what) {
            case 0 -> now.mowers.size();
            case 1 -> (int) now.mowers.stream().filter(now::inStep).count();
            case 2 -> laws.size();
            case 3 -> now.lawNumber;
            case 4 -> tape.length();
            default -> -2;
        };
    }

    private int row(int what) {
        return switch (what) {
            case 0 -> now.gap;
            case 1 -> now.beat;
            case 2 -> now.pace;
            case 3 -> now.stroke;
            case 4 -> now.cut;
            default -> -2;
        };
    }

    private int sets(int what, int v) {
        int was = row(what);
        boolean fine = switch (what) {
            case 0 -> in(v, 0, 9) && now.at(v) == null;
            case 1, 2 -> in(v, 0, 11);
            case 3 -> in(v, 0, 999);
            case 4 -> in(v, 0, 9999);
            default -> false;
        };
        if (!fine) {
            return -2;
        }
        switch (what) {
            case 0 -> now.gap = v;
            case 1 -> now.beat = v;
            case 2 -> now.pace = v;
            case 3 -> now.stroke = v;
            default -> now.cut = v;
        }
        return was;
    }

    private int feed(int[] a) {
        if (!in(a[0], 1, 5)) {
            return -2;
        }
        for (int i = 1; i < 6; i++) {
            if (!in(a[i], 0, 255)) {
                return -2;
            }
        }
        if (tape.length() + a[0] > 160) {
            return -4;
        }
        for (int i = 1; i <= a[0]; i++) {
            tape.append((char) a[i]);
        }
        return tape.length();
    }

    private int text() {
        if (laws.size() == 6) {
            return -4;
        }
        String text = tape.toString();
        tape.setLength(0);
        try {
            laws.add(new Parser(text).law());
            return laws.size() - 1;
        } catch (Fault f) {
            return -100 - f.place;
        }
    }

    private int force(int t) {
        if (!in(t, 0, laws.size() - 1)) {
            return -2;
        }
        int was = now.lawNumber;
        now.lawNumber = t;
        return was;
    }

    private int asks(int part, int m) {
        return in(part, 0, 2) && some(m) ? now.law().part(part, now, now.mowers.get(m)) : -1000;
    }

    private int mower(int kindMore, int placeSwing) {
        if (!in(kindMore, 0, 59) || placeSwing < 0 || placeSwing % 100 > 11 || !free(placeSwing / 100)) {
            return -2;
        }
        if (now.mowers.size() == 6) {
            return -4;
        }
        Mower m = made(kindMore / 10);
        m.more = kindMore % 10;
        m.place = placeSwing / 100;
        m.swing = placeSwing % 100;
        now.mowers.add(m);
        return now.mowers.size() - 1;
    }

    private int put(int m, int what, int v) {
        if (!some(m)) {
            return -5;
        }
        Mower one = now.mowers.get(m);
        int was;
        if (what == 0 && (free(v) || v == one.place)) {
            was = one.place;
            one.place = v;
        } else if (what == 1 && in(v, 0, 11)) {
            was = one.swing;
            one.swing = v;
        } else if (what == 2 && in(v, 0, 99)) {
            was = one.tired;
            one.tired = v;
        } else {
            return -7;
        }
        return was;
    }

    private int told(int m, int what) {
        if (!some(m)) {
            return -5000;
        }
        Mower one = now.mowers.get(m);
        return switch (what) {
            case 0 -> one.place;
            case 1 -> one.swing;
            case 2 -> one.tired;
            case 3 -> KINDS.indexOf(one.getClass());
            case 4 -> one.more;
            case 5 -> one.keeps(now);
            case 6 -> one.swings(now);
            case 7 -> one.tires(now);
            case 8 -> now.clashes(one) ? 1 : 0;
            case 9 -> now.inStep(one) ? 1 : 0;
            default -> -7000;
        };
    }

    private int run(int n, int what) {
        boolean fine = in(what, 0, 3) || some(what - 10) && what >= 10 || some(what - 20) && what >= 20;
        if (!in(n, 0, 60) || !fine) {
            return -2;
        }
        World w = now.copy();
        int cut = w.goesOn(n);
        return switch (what) {
            case 0 -> cut;
            case 1 -> w.bits(w::inStep);
            case 2 -> w.bits(w::clashes);
            case 3 -> w.beat;
            default -> what < 20 ? w.mowers.get(what - 10).swing : w.mowers.get(what - 20).tired;
        };
    }

    private int when(int what) {
        if (!in(what, 0, 2)) {
            return -2;
        }
        for (int n = 0; n <= 60; n++) {
            World w = now.copy();
            w.goesOn(n);
            boolean so = what == 0 ? w.mowers.stream().allMatch(w::inStep)
                : what == 1 ? w.mowers.stream().anyMatch(w::clashes) : w.mowers.stream().anyMatch(m -> m.tired == 99);
            if (so) {
                return n;
            }
        }
        return -1;
    }

    private int often(int m, int n, int what) {
        if (!some(m)) {
            return -5;
        }
        if (!in(n, 0, 60) || !in(what, 0, 1)) {
            return -7;
        }
        int times = 0;
        for (int i = 1; i <= n; i++) {
            World w = now.copy();
            w.goesOn(i);
            Mower one = w.mowers.get(m);
            times += (what == 0 ? w.inStep(one) : w.clashes(one)) ? 1 : 0;
        }
        return times;
    }

    /** The least candidate by which most is cut, or how much that is. */
    private static int best(Map<Integer, Integer> cuts, int what) {
        int most = cuts.values().stream().max(Integer::compare).orElseThrow();
        if (what == 1) {
            return most;
        }
        return cuts.keySet().stream().filter(c -> cuts.get(c) == most).min(Integer::compare).orElseThrow();
    }

    private int gap(int n, int what) {
        if (!in(n, 0, 40) || !in(what, 0, 1)) {
            return -2;
        }
        Map<Integer, Integer> cuts = new HashMap<>();
        for (int p = 0; p < 10; p++) {
            World w = now.copy();
            w.gap = p;
            if (w.at(p) == null) {
                cuts.put(p, w.goesOn(n));
            }
        }
        return best(cuts, what);
    }

    private int stands(int m, int n, int what) {
        if (!some(m)) {
            return -5;
        }
        if (!in(n, 0, 40) || !in(what, 0, 1)) {
            return -7;
        }
        Map<Integer, Integer> cuts = new HashMap<>();
        for (int p = 0; p < 10; p++) {
            World w = now.copy();
            w.mowers.get(m).place = p;
            if (free(p) || now.mowers.get(m).place == p) {
                cuts.put(p, w.goesOn(n));
            }
        }
        return best(cuts, what);
    }

    private int tempo(int n, int what) {
        if (!in(n, 0, 40) || !in(what, 0, 1)) {
            return -2;
        }
        Map<Integer, Integer> cuts = new HashMap<>();
        for (int p = 0; p < 12; p++) {
            World w = now.copy();
            w.pace = p;
            cuts.put(p, w.goesOn(n));
        }
        return best(cuts, what);
    }

    private int order(int n, int what) {
        if (!in(n, 0, 6) || !in(what, 0, 1)) {
            return -2;
        }
        List<Integer> places = new ArrayList<>(now.mowers.stream().map(m -> m.place).sorted().toList());
        Map<Integer, Integer> cuts = new HashMap<>();
        seat(places, new ArrayList<>(), n, cuts);
        return best(cuts, what);
    }

    private void seat(List<Integer> places, List<Integer> who, int n, Map<Integer, Integer> cuts) {
        if (who.size() < places.size()) {
            for (int m = 0; m < places.size(); m++) {
                if (!who.contains(m)) {
                    List<Integer> more = new ArrayList<>(who);
                    more.add(m);
                    seat(places, more, n, cuts);
                }
            }
            return;
        }
        World w = now.copy();
        int digits = 0;
        for (int i = 0; i < who.size(); i++) {
            w.mowers.get(who.get(i)).place = places.get(i);
            digits = digits * 10 + who.get(i) + 1;
        }
        cuts.put(digits, w.goesOn(n));
    }

    private static long lowest(int over, int under, int part) {
        int by = java.math.BigInteger.valueOf(over).gcd(java.math.BigInteger.valueOf(under)).intValue();
        return (part == 0 ? over : under) / by;
    }

    private long mean(int n, int part) {
        if (!in(n, 1, 60) || !in(part, 0, 1) || now.mowers.isEmpty()) {
            return NO;
        }
        return lowest(now.copy().goesOn(n), n * now.mowers.size(), part);
    }

    private long judged(int s, int m, boolean fine, java.util.function.IntSupplier answer) {
        if (!in(s, 0, 3)) {
            return -2;
        }
        if (!sheets.containsKey(s)) {
            return -11;
        }
        if (sheets.get(s).v.length > 20) {
            return -2;
        }
        return !some(m) ? -5 : !fine ? -7 : answer.getAsInt();
    }

    private static int first(World w, int m, Rows told) {
        for (int i = 0; i < told.v.length; i++) {
            w.goesOn();
            if (w.mowers.get(m).swing != told.v[i]) {
                return i;
            }
        }
        return -1;
    }

    private static int bits(int values, IntPredicate such) {
        int bits = 0;
        for (int v = 0; v < values; v++) {
            bits |= such.test(v) ? 1 << v : 0;
        }
        return bits;
    }

    private boolean so(int s, int m, java.util.function.Consumer<World> change) {
        World w = now.copy();
        change.accept(w);
        return first(w, m, sheets.get(s)) == -1;
    }

    private int kinds(int s, int m, int sort) {
        if (sort == 1) {
            return bits(10, v -> so(s, m, w -> w.mowers.get(m).more = v));
        }
        return bits(6, v -> so(s, m, w -> w.mowers.set(m, likeButOfKind(w.mowers.get(m), v))));
    }

    private int states(int s, int m, int what) {
        return switch (what) {
            case 0 -> bits(10, v -> (free(v) || now.mowers.get(m).place == v)
                && so(s, m, w -> w.mowers.get(m).place = v));
            case 1 -> bits(12, v -> so(s, m, w -> w.mowers.get(m).swing = v));
            case 2 -> bits(12, v -> so(s, m, w -> w.beat = v));
            default -> bits(12, v -> so(s, m, w -> w.pace = v));
        };
    }

    private int weary(int s, int m, int what) {
        List<Integer> fits = new ArrayList<>();
        for (int t = 0; t < 100; t++) {
            int tired = t;
            if (so(s, m, w -> w.mowers.get(m).tired = tired)) {
                fits.add(t);
            }
        }
        return what == 0 ? fits.size() : fits.isEmpty() ? -1 : fits.get(0);
    }

    private int whose(int s) {
        if (!in(s, 0, 3)) {
            return -2;
        }
        if (!sheets.containsKey(s)) {
            return -11;
        }
        if (sheets.get(s).v.length > 20) {
            return -2;
        }
        return bits(now.mowers.size(), m -> so(s, m, w -> { }));
    }

    private int laws(int s, int m) {
        return bits(laws.size(), t -> so(s, m, w -> w.lawNumber = t));
    }

    private int film(int s, int m, int n) {
        if (!in(s, 0, 3)) {
            return -2;
        }
        if (!some(m)) {
            return -5;
        }
        if (!in(n, 0, 20)) {
            return -7;
        }
        Rows rows = new Rows(0, n);
        for (int i = 0; i < n; i++) {
            World w = now.copy();
            w.goesOn(i + 1);
            rows.put(i, w.mowers.get(m).swing);
        }
        sheets.put(s, rows);
        return n;
    }

    private int drawn(int seed, int what) {
        if (!in(seed, 0, 99999) || !in(what, 0, 1)) {
            return -2;
        }
        World w = now.copy();
        int cut = w.gusts(seed);
        return what == 0 ? cut : w.bits(w::inStep);
    }

    private long odds(int seed, int seeds, int least, int part) {
        if (!in(seed, 0, 99999) || !in(seeds, 1, 40) || !in(least, 0, 99) || !in(part, 0, 1)) {
            return NO;
        }
        int enough = 0;
        for (int i = 0; i < seeds; i++) {
            enough += now.copy().gusts(seed + i) >= least ? 1 : 0;
        }
        return lowest(enough, seeds, part);
    }

    private int image() {
        kept = now.copy();
        return kept.mowers.size();
    }

    private int back() {
        if (kept == null) {
            return -3;
        }
        now = kept.copy();
        return now.mowers.size();
    }

    private int sheet(int s, int sort, int n) {
        if (!in(s, 0, 3) || !in(sort, -1, 2) || sort != -1 && n > 40) {
            return -2;
        }
        if (sort == -1) {
            sheets.remove(s);
            return 1;
        }
        if (n < 0) {
            return -14;
        }
        sheets.put(s, new Rows(sort, n));
        return 1;
    }

    private int cell(int s, int i, int v) {
        if (!in(s, 0, 3)) {
            return -2;
        }
        if (!sheets.containsKey(s)) {
            return -11;
        }
        if (!in(i, 0, sheets.get(s).v.length - 1)) {
            return -12;
        }
        sheets.get(s).put(i, v);
        return 1;
    }

    private int copy(int s, int i, int other, int j, int n) {
        if (!in(s, 0, 3) || !in(other, 0, 3)) {
            return -2;
        }
        Rows from = sheets.get(s);
        Rows to = sheets.get(other);
        if (from == null || to == null) {
            return -11;
        }
        if (from.sort != to.sort) {
            return -13;
        }
        if (n < 0 || i < 0 || j < 0 || (long) i + n > from.v.length || (long) j + n > to.v.length) {
            return -12;
        }
        int[] was = from.v.clone();
        for (int k = 0; k < n; k++) {
            to.v[j + k] = was[i + k];
        }
        return n;
    }

    private int mowersBy(int s, int sort, int from, int n) {
        if (!in(s, 0, 3) || !in(sort, 0, 2) || !in(n, 0, 6)) {
            return -2;
        }
        Rows rows = sheets.get(s);
        if (rows == null) {
            return -11;
        }
        if (rows.sort != sort) {
            return -13;
        }
        int came = 0;
        for (long at = from; at < from + 2L * n; at += 2) {
            if (at < 0 || at + 1 >= rows.v.length) {
                return -12;
            }
            came += mower(rows.v[(int) at], rows.v[(int) at + 1]) >= 0 ? 1 : 0;
        }
        return came;
    }

    private int taken(int i, int kind) {
        if (!in(kind, 0, 6)) {
            return -2;
        }
        if (!in(i, 0, 11)) {
            return -12;
        }
        if (!some(i % 6)) {
            return -11;
        }
        Mower m = now.mowers.get(i % 6);
        if (i > 5) {
            return kind == 6 ? m.swing : -13;
        }
        return kind < 6 && KINDS.get(kind).isInstance(m) ? i : -13;
    }
}
