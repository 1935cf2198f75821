/**
 * A row of mowers who keep step with one who isn't there. ../shared/DOC.md says, promise by promise,
 * what each call answers; the words in capitals in the comments here are that document's.
 */
public final class ScythesKeepStep {
    public static final int NONE = -1, BAD = -2, STATE = -3, FULL = -4;
    public static final long NO = -4611686018427387904L;

    // Refusals that have no name in the face.
    private static final int NO_SUCH = -5, NO_PART = -7, NOTHING = -11, OUTSIDE = -12, UNLIKE = -13, NEGATIVE = -14;
    private static final int FINE = 0;

    private static final int PLACES = 10, MOWERS = 6, KINDS = 6, MORES = 10, ROUND = 12, SPENT = 99;
    private static final int TEXTS = 6, PARTS = 3, TAPE = 160, SHEETS = 4, CELLS = 40, TELLABLE = 20;
    private static final int RUN_MOST = 60, BEST_MOST = 40, ORDER_MOST = 6, WAYS = 720;
    private static final int STROKE_MOST = 999, CUT_MOST = 9999;
    private static final int SEED_MOST = 99999, SEEDS_MOST = 40, GUSTS = 10;

    // What row() and sets() number, and the highest that each may be set to.
    private static final int GAP = 0, BEAT = 1, PACE = 2, STROKE = 3, CUT = 4;
    private static final int[] MARK_MOST = {9, 11, 11, 999, 9999};

    // What told() and put() number.
    private static final int PLACE = 0, SWING = 1, TIRED = 2, KIND = 3, MORE = 4, FACTS = 5;

    private static final int OLD = 1, LAD = 2, FATHER = 3, HIRED = 4, WHISTLER = 5;
    private static final int[] KIND_ABOVE = {-1, 0, 0, 1, 2, 0};

    private static final int SWINGS = 0, TIRES = 1, KEEPS = 2;
    private static final String FIRST_TEXT = "swings 3 + (beat = swing) ; tires 1 ; keeps beat ; ";

    private final Law[] texts = new Law[TEXTS];
    private final Sheet[] sheets = new Sheet[SHEETS];
    private final Reader reader = new Reader();
    private final Best best = new Best();
    private final Orders orders = new Orders();
    private final Row now, thought, kept;
    private int textCount;
    private boolean imageKept;

    public ScythesKeepStep() {
        for (int t = 0; t < TEXTS; t++) {
            texts[t] = new Law();
        }
        for (int s = 0; s < SHEETS; s++) {
            sheets[s] = new Sheet();
        }
        now = new Row(texts);
        thought = new Row(texts);
        kept = new Row(texts);
        for (int i = 0; i < FIRST_TEXT.length(); i++) {
            reader.take(FIRST_TEXT.charAt(i));
        }
        reader.readAll();
        texts[0].become(reader.draft);
        textCount = 1;
    }

    // ---- the row, the law, mowers

    public int count(int what) {
        switch (what) {
            case 0:
                return now.mowers;
            case 1:
                return Integer.bitCount(now.inStepBits());
            case 2:
                return textCount;
            case 3:
                return now.law;
            case 4:
                return reader.size;
            default:
                return BAD;
        }
    }

    public int sets(int what, int v) {
        if (!within(what, CUT) || !within(v, MARK_MOST[what])) {
            return BAD;
        }
        if (what == GAP && now.whoAt(v) >= 0) {
            return BAD;
        }
        int was = now.marks[what];
        now.marks[what] = v;
        return was;
    }

    public int row(int what) {
        return within(what, CUT) ? now.marks[what] : BAD;
    }

    public int feed(int n, int a, int b, int c, int d, int e) {
        if (n < 1 || n > 5) {
            return BAD;
        }
        if (!within(a, 255) || !within(b, 255) || !within(c, 255) || !within(d, 255) || !within(e, 255)) {
            return BAD;
        }
        if (reader.size + n > TAPE) {
            return FULL;
        }
        for (int i = 0; i < n; i++) {
            reader.take(i == 0 ? a : i == 1 ? b : i == 2 ? c : i == 3 ? d : e);
        }
        return reader.size;
    }

    public int text() {
        if (textCount >= TEXTS) {
            return FULL;
        }
        int fault = reader.readAll();
        if (fault != NONE) {
            return -100 - fault;
        }
        texts[textCount].become(reader.draft);
        textCount++;
        return textCount - 1;
    }

    public int force(int t) {
        if (!within(t, textCount - 1)) {
            return BAD;
        }
        int was = now.law;
        now.law = t;
        return was;
    }

    public int asks(int part, int m) {
        if (!within(part, PARTS - 1) || !now.has(m)) {
            return -1000;
        }
        now.lookAt(m);
        return texts[now.law].says(part, now.names);
    }

    public int mower(int kindMore, int placeSwing) {
        return comes(kindMore, placeSwing);
    }

    public int put(int m, int what, int v) {
        if (!now.has(m)) {
            return NO_SUCH;
        }
        boolean fine = false;
        if (what == PLACE) {
            fine = now.isFreeFor(m, v);
        } else if (what == SWING) {
            fine = within(v, ROUND - 1);
        } else if (what == TIRED) {
            fine = within(v, SPENT);
        }
        if (!fine) {
            return NO_PART;
        }
        int was = now.facts[what][m];
        now.facts[what][m] = v;
        return was;
    }

    public int told(int m, int what) {
        if (!now.has(m)) {
            return -5000;
        }
        if (within(what, FACTS - 1)) {
            return now.facts[what][m];
        }
        now.lookAt(m);
        switch (what) {
            case 5:
                return now.keepsTo();
            case 6:
                return now.howFar();
            case 7:
                return now.howTiring();
            case 8:
                return now.clashes() ? 1 : 0;
            case 9:
                return now.inStep(m) ? 1 : 0;
            default:
                return -7000;
        }
    }

    // ---- strokes

    public int stroke() {
        return now.marks[STROKE] >= STROKE_MOST ? STATE : now.swingOn();
    }

    public int run(int n, int what) {
        boolean swingAsked = what >= 10 && now.has(what - 10);
        boolean tiredAsked = what >= 20 && now.has(what - 20);
        if (!within(n, RUN_MOST) || !within(what, 3) && !swingAsked && !tiredAsked) {
            return BAD;
        }
        thought.become(now);
        int cut = thought.cutBy(n);
        switch (what) {
            case 0:
                return cut;
            case 1:
                return thought.inStepBits();
            case 2:
                return thought.clashBits();
            case 3:
                return thought.marks[BEAT];
            default:
                return swingAsked ? thought.facts[SWING][what - 10] : thought.facts[TIRED][what - 20];
        }
    }

    public int when(int what) {
        if (!within(what, 2)) {
            return BAD;
        }
        thought.become(now);
        for (int strokes = 0; strokes <= RUN_MOST; strokes++) {
            if (happens(what)) {
                return strokes;
            }
            thought.swingOn();
        }
        return NONE;
    }

    public int often(int m, int n, int what) {
        if (!now.has(m)) {
            return NO_SUCH;
        }
        if (!within(n, RUN_MOST) || !within(what, 1)) {
            return NO_PART;
        }
        thought.become(now);
        int times = 0;
        for (int strokes = 0; strokes < n; strokes++) {
            thought.swingOn();
            thought.lookAt(m);
            if (what == 0 ? thought.inStep(m) : thought.clashes()) {
                times++;
            }
        }
        return times;
    }

    // ---- what is best

    public int gap(int n, int what) {
        if (!within(n, BEST_MOST) || !within(what, 1)) {
            return BAD;
        }
        best.clear();
        for (int p = 0; p < PLACES; p++) {
            if (now.whoAt(p) < 0) {
                thought.become(now);
                thought.marks[GAP] = p;
                best.offer(p, thought.cutBy(n));
            }
        }
        return best.tells(what);
    }

    public int stands(int m, int n, int what) {
        if (!now.has(m)) {
            return NO_SUCH;
        }
        if (!within(n, BEST_MOST) || !within(what, 1)) {
            return NO_PART;
        }
        best.clear();
        for (int p = 0; p < PLACES; p++) {
            if (now.isFreeFor(m, p)) {
                thought.become(now);
                thought.facts[PLACE][m] = p;
                best.offer(p, thought.cutBy(n));
            }
        }
        return best.tells(what);
    }

    public int tempo(int n, int what) {
        if (!within(n, BEST_MOST) || !within(what, 1)) {
            return BAD;
        }
        best.clear();
        for (int pace = 0; pace < ROUND; pace++) {
            thought.become(now);
            thought.marks[PACE] = pace;
            best.offer(pace, thought.cutBy(n));
        }
        return best.tells(what);
    }

    public int order(int n, int what) {
        if (!within(n, ORDER_MOST) || !within(what, 1)) {
            return BAD;
        }
        best.clear();
        orders.begin(now);
        boolean more = true;
        for (int way = 0; way < WAYS && more; way++) {
            thought.become(now);
            orders.seat(thought);
            best.offer(orders.digits(), thought.cutBy(n));
            more = orders.goesOn();
        }
        return best.tells(what);
    }

    public long mean(int n, int part) {
        if (n < 1 || n > RUN_MOST || !within(part, 1) || now.mowers == 0) {
            return NO;
        }
        thought.become(now);
        return lowestTerm(thought.cutBy(n), n * now.mowers, part);
    }

    // ---- told strokes

    public int judge(int s, int m) {
        int refusal = refusalOfOne(s, m);
        if (refusal != FINE) {
            return refusal;
        }
        thought.become(now);
        return firstOtherwise(s, m);
    }

    public int kinds(int s, int m, int sort) {
        int refusal = refusalOfOne(s, m);
        if (refusal != FINE) {
            return refusal;
        }
        if (!within(sort, 1)) {
            return NO_PART;
        }
        return sort == 0 ? bitsOfFact(s, m, KIND, KINDS) : bitsOfFact(s, m, MORE, MORES);
    }

    public int states(int s, int m, int what) {
        int refusal = refusalOfOne(s, m);
        if (refusal != FINE) {
            return refusal;
        }
        switch (what) {
            case 0:
                return bitsOfFact(s, m, PLACE, PLACES);
            case 1:
                return bitsOfFact(s, m, SWING, ROUND);
            case 2:
                return bitsOfMark(s, m, BEAT);
            case 3:
                return bitsOfMark(s, m, PACE);
            default:
                return NO_PART;
        }
    }

    public int weary(int s, int m, int what) {
        int refusal = refusalOfOne(s, m);
        if (refusal != FINE) {
            return refusal;
        }
        if (!within(what, 1)) {
            return NO_PART;
        }
        int many = 0;
        int least = NONE;
        for (int tired = SPENT; tired >= 0; tired--) {
            thought.become(now);
            thought.facts[TIRED][m] = tired;
            if (firstOtherwise(s, m) == NONE) {
                many++;
                least = tired;
            }
        }
        return what == 0 ? many : least;
    }

    public int whose(int s) {
        int refusal = refusalOfTold(s);
        if (refusal != FINE) {
            return refusal;
        }
        int bits = 0;
        for (int m = 0; m < now.mowers; m++) {
            thought.become(now);
            if (firstOtherwise(s, m) == NONE) {
                bits |= 1 << m;
            }
        }
        return bits;
    }

    public int laws(int s, int m) {
        int refusal = refusalOfOne(s, m);
        if (refusal != FINE) {
            return refusal;
        }
        int bits = 0;
        for (int t = 0; t < textCount; t++) {
            thought.become(now);
            thought.law = t;
            if (firstOtherwise(s, m) == NONE) {
                bits |= 1 << t;
            }
        }
        return bits;
    }

    public int film(int s, int m, int n) {
        if (!within(s, SHEETS - 1)) {
            return BAD;
        }
        if (!now.has(m)) {
            return NO_SUCH;
        }
        if (!within(n, TELLABLE)) {
            return NO_PART;
        }
        thought.become(now);
        sheets[s].remake(0, n);
        for (int i = 0; i < n; i++) {
            thought.swingOn();
            sheets[s].write(i, thought.facts[SWING][m]);
        }
        return n;
    }

    // ---- gusts by lots

    public int drawn(int seed, int what) {
        if (!within(seed, SEED_MOST) || !within(what, 1)) {
            return BAD;
        }
        thought.become(now);
        int cut = thought.cutByGusts(seed);
        return what == 0 ? cut : thought.inStepBits();
    }

    public long odds(int seed, int seeds, int least, int part) {
        if (!within(seed, SEED_MOST) || seeds < 1 || seeds > SEEDS_MOST) {
            return NO;
        }
        if (!within(least, 99) || !within(part, 1)) {
            return NO;
        }
        int enough = 0;
        for (int i = 0; i < seeds; i++) {
            thought.become(now);
            if (thought.cutByGusts(seed + i) >= least) {
                enough++;
            }
        }
        return lowestTerm(enough, seeds, part);
    }

    public int image() {
        kept.become(now);
        imageKept = true;
        return kept.mowers;
    }

    public int back() {
        if (!imageKept) {
            return STATE;
        }
        now.become(kept);
        return now.mowers;
    }

    // ---- the host

    public int sheet(int s, int sort, int n) {
        if (!within(s, SHEETS - 1) || sort < -1 || sort > 2) {
            return BAD;
        }
        if (sort == -1) {
            sheets[s].remake(-1, 0);
            return 1;
        }
        if (n > CELLS) {
            return BAD;
        }
        if (n < 0) {
            return NEGATIVE;
        }
        sheets[s].remake(sort, n);
        return 1;
    }

    public int cell(int s, int i, int v) {
        if (!within(s, SHEETS - 1)) {
            return BAD;
        }
        if (sheets[s].isMissing()) {
            return NOTHING;
        }
        if (!within(i, sheets[s].size - 1)) {
            return OUTSIDE;
        }
        sheets[s].write(i, v);
        return 1;
    }

    public int copy(int s, int i, int other, int j, int n) {
        if (!within(s, SHEETS - 1) || !within(other, SHEETS - 1)) {
            return BAD;
        }
        Sheet from = sheets[s];
        Sheet to = sheets[other];
        if (from.isMissing() || to.isMissing()) {
            return NOTHING;
        }
        if (from.sort != to.sort) {
            return UNLIKE;
        }
        if (n < 0 || !from.holds(i, n) || !to.holds(j, n)) {
            return OUTSIDE;
        }
        System.arraycopy(from.numbers, i, to.numbers, j, n);
        return n;
    }

    public int mowersBy(int s, int sort, int from, int n) {
        if (!within(s, SHEETS - 1) || !within(sort, 2) || !within(n, MOWERS)) {
            return BAD;
        }
        Sheet list = sheets[s];
        if (list.isMissing()) {
            return NOTHING;
        }
        if (list.sort != sort) {
            return UNLIKE;
        }
        int came = 0;
        for (int pair = 0; pair < n; pair++) {
            int at = from + 2 * pair;
            if (!list.holds(at, 2)) {
                return OUTSIDE;
            }
            if (comes(list.numbers[at], list.numbers[at + 1]) >= 0) {
                came++;
            }
        }
        return came;
    }

    public int taken(int i, int kind) {
        if (!within(kind, KINDS)) {
            return BAD;
        }
        if (!within(i, 2 * MOWERS - 1)) {
            return OUTSIDE;
        }
        int m = i % MOWERS;
        if (!now.has(m)) {
            return NOTHING;
        }
        boolean isMower = i < MOWERS;
        if (isMower != kind < KINDS) {
            return UNLIKE;
        }
        if (!isMower) {
            return now.facts[SWING][m];
        }
        return isA(now.facts[KIND][m], kind) ? m : UNLIKE;
    }

    // ---- what the calls share

    private static boolean within(int v, int most) {
        return v >= 0 && v <= most;
    }

    private static boolean isA(int kind, int above) {
        int k = kind;
        for (int up = 0; up < KINDS && within(k, KINDS - 1); up++) {
            if (k == above) {
                return true;
            }
            k = KIND_ABOVE[k];
        }
        return false;
    }

    private static long lowestTerm(int over, int under, int part) {
        int a = under;
        int b = over;
        for (int turn = 0; turn < 64 && b != 0; turn++) {
            int rest = a % b;
            a = b;
            b = rest;
        }
        if (a == 0) {
            return NO;
        }
        return (part == 0 ? over : under) / a;
    }

    private int comes(int kindMore, int placeSwing) {
        if (!within(kindMore, 10 * KINDS - 1) || !within(placeSwing, 100 * PLACES - 1)) {
            return BAD;
        }
        int p = placeSwing / 100;
        int swing = placeSwing % 100;
        if (!within(swing, ROUND - 1) || !now.isFree(p)) {
            return BAD;
        }
        return now.mowers >= MOWERS ? FULL : now.add(kindMore, p, swing);
    }

    private boolean happens(int what) {
        switch (what) {
            case 0:
                return Integer.bitCount(thought.inStepBits()) == thought.mowers;
            case 1:
                return thought.clashBits() != 0;
            default:
                return thought.anySpent();
        }
    }

    private int refusalOfTold(int s) {
        if (!within(s, SHEETS - 1)) {
            return BAD;
        }
        if (sheets[s].isMissing()) {
            return NOTHING;
        }
        return sheets[s].size > TELLABLE ? BAD : FINE;
    }

    private int refusalOfOne(int s, int m) {
        int refusal = refusalOfTold(s);
        if (refusal != FINE) {
            return refusal;
        }
        return now.has(m) ? FINE : NO_SUCH;
    }

    /** Swings the thought row on: the first number of the sheet that isn't the mower's swing there. */
    private int firstOtherwise(int s, int m) {
        Sheet told = sheets[s];
        for (int i = 0; i < told.size; i++) {
            thought.swingOn();
            if (thought.facts[SWING][m] != told.numbers[i]) {
                return i;
            }
        }
        return NONE;
    }

    private int bitsOfFact(int s, int m, int fact, int values) {
        int bits = 0;
        for (int v = 0; v < values; v++) {
            thought.become(now);
            thought.facts[fact][m] = v;
            boolean may = fact != PLACE || now.isFreeFor(m, v);
            if (may && firstOtherwise(s, m) == NONE) {
                bits |= 1 << v;
            }
        }
        return bits;
    }

    private int bitsOfMark(int s, int m, int mark) {
        int bits = 0;
        for (int v = 0; v < ROUND; v++) {
            thought.become(now);
            thought.marks[mark] = v;
            if (firstOtherwise(s, m) == NONE) {
                bits |= 1 << v;
            }
        }
        return bits;
    }

    /** The row as it is, is thought of, or is kept by the image. */
    private static final class Row {
        final Law[] texts;
        final int[] marks = {2, 0, 3, 0, 0};
        final int[][] facts = new int[FACTS][MOWERS];
        int mowers;
        int law;
        // Of the mower looked at: what the names of a text stand for, in the order of Reader.WORDS.
        final int[] names = new int[6];
        private int who;
        // Told ahead for all mowers, so that none sees another one's new swing.
        private final int[] far = new int[MOWERS];
        private final int[] tiring = new int[MOWERS];

        Row(Law[] texts) {
            this.texts = texts;
        }

        void become(Row other) {
            System.arraycopy(other.marks, 0, marks, 0, marks.length);
            for (int fact = 0; fact < FACTS; fact++) {
                System.arraycopy(other.facts[fact], 0, facts[fact], 0, MOWERS);
            }
            mowers = other.mowers;
            law = other.law;
        }

        boolean has(int m) {
            return m >= 0 && m < mowers;
        }

        int add(int kindMore, int p, int swing) {
            int m = mowers;
            facts[PLACE][m] = p;
            facts[SWING][m] = swing;
            facts[TIRED][m] = 0;
            facts[KIND][m] = kindMore / 10;
            facts[MORE][m] = kindMore % 10;
            mowers++;
            return m;
        }

        int whoAt(int p) {
            for (int m = 0; m < mowers; m++) {
                if (facts[PLACE][m] == p) {
                    return m;
                }
            }
            return NONE;
        }

        boolean isFree(int p) {
            return within(p, PLACES - 1) && p != marks[GAP] && whoAt(p) < 0;
        }

        boolean isFreeFor(int m, int p) {
            return p == facts[PLACE][m] || isFree(p);
        }

        boolean inStep(int m) {
            return facts[SWING][m] == marks[BEAT];
        }

        int inStepBits() {
            int bits = 0;
            for (int m = 0; m < mowers; m++) {
                if (inStep(m)) {
                    bits |= 1 << m;
                }
            }
            return bits;
        }

        int clashBits() {
            int bits = 0;
            for (int m = 0; m < mowers; m++) {
                lookAt(m);
                if (clashes()) {
                    bits |= 1 << m;
                }
            }
            return bits;
        }

        boolean anySpent() {
            for (int m = 0; m < mowers; m++) {
                if (facts[TIRED][m] >= SPENT) {
                    return true;
                }
            }
            return false;
        }

        /** Of whom names, howFar(), howTiring(), keepsTo() and clashes() speak from now on. */
        void lookAt(int m) {
            who = m;
            int p = facts[PLACE][m];
            names[0] = marks[BEAT];
            names[1] = facts[SWING][m];
            names[2] = seenAt(p - 1);
            names[3] = seenAt(p + 1);
            names[4] = facts[TIRED][m];
            names[5] = facts[MORE][m];
        }

        private int seenAt(int p) {
            if (p == marks[GAP]) {
                return marks[BEAT];
            }
            int other = whoAt(p);
            return facts[SWING][other < 0 ? who : other];
        }

        boolean clashes() {
            return Math.abs(names[1] - names[2]) == 6 || Math.abs(names[1] - names[3]) == 6;
        }

        int howFar() {
            int kind = facts[KIND][who];
            int swing = facts[SWING][who];
            if (kind == WHISTLER) {
                return marks[STROKE] % 5 == 0 ? 0 : Math.floorMod(keepsTo() - swing, ROUND);
            }
            int reach = texts[law].says(SWINGS, names);
            if (isA(kind, OLD) && keepsTo() != swing) {
                reach++;
            }
            if (isA(kind, LAD)) {
                reach += facts[MORE][who] / 3;
            }
            if (kind == HIRED) {
                reach *= 2;
            }
            return Math.min(reach, ROUND - 1);
        }

        int howTiring() {
            int kind = facts[KIND][who];
            if (kind == WHISTLER) {
                return -1;
            }
            int load = texts[law].says(TIRES, names) + (clashes() ? 5 : 0);
            if (isA(kind, LAD)) {
                return 2 * load;
            }
            return kind == FATHER ? load - facts[MORE][who] : load;
        }

        int keepsTo() {
            switch (facts[KIND][who]) {
                case OLD:
                    return marks[BEAT];
                case FATHER:
                    return (marks[BEAT] + 6) % ROUND;
                case HIRED:
                    return facts[MORE][who];
                default:
                    return texts[law].says(KEEPS, names);
            }
        }

        /** A STROKE: how much is cut by it. */
        int swingOn() {
            for (int m = 0; m < mowers; m++) {
                lookAt(m);
                far[m] = facts[TIRED][m] >= SPENT ? 0 : howFar();
                tiring[m] = howTiring();
            }
            int cut = 0;
            for (int m = 0; m < mowers; m++) {
                int to = facts[SWING][m] + far[m];
                if (to >= ROUND) {
                    cut++;
                }
                facts[SWING][m] = to % ROUND;
                facts[TIRED][m] = Math.max(0, Math.min(SPENT, facts[TIRED][m] + tiring[m]));
            }
            marks[BEAT] = (marks[BEAT] + marks[PACE]) % ROUND;
            marks[STROKE]++;
            marks[CUT] = Math.min(CUT_MOST, marks[CUT] + cut);
            return cut;
        }

        int cutBy(int strokes) {
            int cut = 0;
            for (int i = 0; i < strokes; i++) {
                cut += swingOn();
            }
            return cut;
        }

        int cutByGusts(int seed) {
            long lot = seed + 1L;
            int cut = 0;
            for (int i = 0; i < GUSTS; i++) {
                lot = nextLot(lot);
                int m = (int) (lot % 6);
                lot = nextLot(lot);
                if (m < mowers) {
                    facts[SWING][m] = (int) ((facts[SWING][m] + lot) % ROUND);
                }
                cut += swingOn();
            }
            return cut;
        }

        private static long nextLot(long last) {
            return last * 48271 % 2147483647;
        }
    }

    /** A TEXT as the codes of its three parts, each in the order in which a stack works them off. */
    private static final class Law {
        // A code of 0 or more is a number, of -6 .. -1 a name, below that an operation.
        static final int LAST_NAME = -6, NOT = -7, MINUS_ONE = -8;
        static final int EITHER = -9, BOTH = -10, LESS = -11, LIKE = -12, PLUS = -13, MINUS = -14, TIMES = -15;
        private final int[] codes = new int[TAPE];
        private final int[] ends = new int[PARTS];
        private final int[] stack = new int[TAPE];
        private int size;

        void clear() {
            size = 0;
        }

        void add(int code) {
            if (size < TAPE) {
                codes[size] = code;
                size++;
            }
        }

        void endPart(int part) {
            ends[part] = size;
        }

        void become(Law other) {
            System.arraycopy(other.codes, 0, codes, 0, TAPE);
            System.arraycopy(other.ends, 0, ends, 0, PARTS);
            size = other.size;
        }

        int says(int part, int[] names) {
            int top = 0;
            for (int i = part == 0 ? 0 : ends[part - 1]; i < ends[part]; i++) {
                int code = codes[i];
                if (code >= LAST_NAME) {
                    if (top < TAPE) {
                        stack[top] = code >= 0 ? code : names[-1 - code];
                        top++;
                    }
                } else if (code >= MINUS_ONE) {
                    if (top >= 1) {
                        int a = stack[top - 1];
                        stack[top - 1] = code == MINUS_ONE ? -a : a == 0 ? 1 : 0;
                    }
                } else if (top >= 2) {
                    top--;
                    stack[top - 1] = joined(code, stack[top - 1], stack[top]);
                }
            }
            int least = part == TIRES ? -99 : 0;
            int most = part == TIRES ? 99 : ROUND - 1;
            return Math.max(least, Math.min(most, stack[0]));
        }

        private static int joined(int code, int a, int b) {
            switch (code) {
                case EITHER:
                    return a != 0 || b != 0 ? 1 : 0;
                case BOTH:
                    return a != 0 && b != 0 ? 1 : 0;
                case LESS:
                    return a < b ? 1 : 0;
                case LIKE:
                    return a == b ? 1 : 0;
                case PLUS:
                    return a + b;
                case MINUS:
                    return a - b;
                default:
                    return a * b;
            }
        }
    }

    /** THE TAPE, and how it is read as a TEXT. */
    private static final class Reader {
        // The words' kinds are their numbers in this order: the three parts, the other keys, the names.
        private static final String WORDS = "swings tires keeps or and not beat swing left right tired more ";
        private static final int OR = 3, AND = 4, NOT = 5, FIRST_NAME = 6, LAST_NAME = 11;
        // A sign's kind is its byte.
        private static final String SIGNS = "();+-*<=";
        private static final int NUMBER = 256, END = 257, WRONG = 258;
        private static final int OPEN_MOST = 5, DIGITS_MOST = 4;

        final Law draft = new Law();
        int size;
        private final int[] bytes = new int[TAPE];
        private int at, kind, place, number, fault;

        void take(int b) {
            if (size < TAPE) {
                bytes[size] = b;
                size++;
            }
        }

        /** Empties the tape into the draft: the place of its FAULT, or NONE. */
        int readAll() {
            at = 0;
            fault = NONE;
            draft.clear();
            advance();
            for (int part = 0; part < PARTS; part++) {
                expect(part);
                readEither(0);
                expect(';');
                draft.endPart(part);
            }
            expect(END);
            size = 0;
            return fault;
        }

        private void expect(int wanted) {
            if (kind == wanted) {
                advance();
            } else {
                fail();
            }
        }

        /** No reader goes on with a wrong token, so the first fault stays the first. */
        private void fail() {
            if (fault == NONE) {
                fault = place;
            }
            kind = WRONG;
        }

        private void readEither(int open) {
            readBoth(open);
            for (int turn = 0; turn < TAPE && kind == OR; turn++) {
                advance();
                readBoth(open);
                draft.add(Law.EITHER);
            }
        }

        private void readBoth(int open) {
            readNot(open);
            for (int turn = 0; turn < TAPE && kind == AND; turn++) {
                advance();
                readNot(open);
                draft.add(Law.BOTH);
            }
        }

        private void readNot(int open) {
            if (kind == NOT) {
                if (opens(open)) {
                    readNot(open + 1);
                    draft.add(Law.NOT);
                }
                return;
            }
            readSum(open);
            if (kind == '<' || kind == '=') {
                int code = kind == '<' ? Law.LESS : Law.LIKE;
                advance();
                readSum(open);
                draft.add(code);
            }
        }

        private void readSum(int open) {
            readTerm(open);
            for (int turn = 0; turn < TAPE && (kind == '+' || kind == '-'); turn++) {
                int code = kind == '+' ? Law.PLUS : Law.MINUS;
                advance();
                readTerm(open);
                draft.add(code);
            }
        }

        private void readTerm(int open) {
            readOne(open);
            for (int turn = 0; turn < TAPE && kind == '*'; turn++) {
                advance();
                readOne(open);
                draft.add(Law.TIMES);
            }
        }

        private void readOne(int open) {
            if (kind == NUMBER) {
                draft.add(number);
                advance();
            } else if (kind >= FIRST_NAME && kind <= LAST_NAME) {
                draft.add(FIRST_NAME - 1 - kind);
                advance();
            } else if (kind == '-') {
                if (opens(open)) {
                    readOne(open + 1);
                    draft.add(Law.MINUS_ONE);
                }
            } else if (kind == '(') {
                if (opens(open)) {
                    readEither(open + 1);
                    expect(')');
                }
            } else {
                fail();
            }
        }

        /** Steps over a token that opens, if one more may be open. */
        private boolean opens(int open) {
            if (open >= OPEN_MOST) {
                fail();
                return false;
            }
            advance();
            return true;
        }

        private void advance() {
            while (at < size && (bytes[at] == 32 || bytes[at] == 10)) {
                at++;
            }
            place = at;
            if (at >= size) {
                kind = END;
            } else if (isLetter(bytes[at])) {
                advanceWord();
            } else if (isDigit(bytes[at])) {
                advanceNumber();
            } else {
                kind = SIGNS.indexOf((char) bytes[at]) >= 0 ? bytes[at] : WRONG;
                at++;
            }
        }

        private void advanceWord() {
            while (at < size && isLetter(bytes[at])) {
                at++;
            }
            kind = WRONG;
            int word = 0;
            int start = 0;
            for (int i = 0; i < WORDS.length(); i++) {
                if (WORDS.charAt(i) == ' ') {
                    if (isWordAt(start, i)) {
                        kind = word;
                    }
                    word++;
                    start = i + 1;
                }
            }
        }

        /** Whether the word just stepped over is the one that stands in WORDS from start on, ahead of end. */
        private boolean isWordAt(int start, int end) {
            if (end - start != at - place) {
                return false;
            }
            for (int i = start; i < end; i++) {
                if (WORDS.charAt(i) != bytes[place + i - start]) {
                    return false;
                }
            }
            return true;
        }

        private void advanceNumber() {
            number = 0;
            while (at < size && isDigit(bytes[at])) {
                number = number * 10 + bytes[at] - '0';
                at++;
            }
            kind = at - place > DIGITS_MOST ? WRONG : NUMBER;
        }

        private static boolean isLetter(int b) {
            return b >= 'a' && b <= 'z';
        }

        private static boolean isDigit(int b) {
            return b >= '0' && b <= '9';
        }
    }

    /** One of the host's rows of numbers; of sort -1 it is missing. */
    private static final class Sheet {
        final int[] numbers = new int[CELLS];
        int sort = -1;
        int size;

        boolean isMissing() {
            return sort < 0;
        }

        void remake(int newSort, int newSize) {
            sort = newSort;
            size = newSize;
            for (int i = 0; i < CELLS; i++) {
                numbers[i] = 0;
            }
        }

        void write(int i, int v) {
            numbers[i] = sort == 0 ? (byte) v : sort == 1 ? (short) v : v;
        }

        boolean holds(int i, int n) {
            return i >= 0 && i <= size && n <= size - i;
        }
    }

    /** Keeps of all that is offered the first one by which most is cut. */
    private static final class Best {
        private int which, most;

        void clear() {
            which = NONE;
            most = NONE;
        }

        void offer(int candidate, int cut) {
            if (cut > most) {
                which = candidate;
                most = cut;
            }
        }

        int tells(int what) {
            return what == 0 ? which : most;
        }
    }

    /** Goes through all ways to put the mowers at the places taken, by their digits upwards. */
    private static final class Orders {
        private final int[] places = new int[MOWERS];
        private final int[] whoStands = new int[MOWERS];
        private int size;

        void begin(Row row) {
            size = 0;
            for (int p = 0; p < PLACES && size < MOWERS; p++) {
                if (row.whoAt(p) >= 0) {
                    places[size] = p;
                    whoStands[size] = size;
                    size++;
                }
            }
        }

        void seat(Row row) {
            for (int i = 0; i < size; i++) {
                row.facts[PLACE][whoStands[i]] = places[i];
            }
        }

        int digits() {
            int number = 0;
            for (int i = 0; i < size; i++) {
                number = 10 * number + 1 + whoStands[i];
            }
            return number;
        }

        /** Makes the next higher order: the last rise is raised by the least that is higher, the rest ascends. */
        boolean goesOn() {
            int rise = size - 2;
            while (rise >= 0 && whoStands[rise] > whoStands[rise + 1]) {
                rise--;
            }
            if (rise < 0) {
                return false;
            }
            int higher = size - 1;
            while (higher > rise && whoStands[higher] < whoStands[rise]) {
                higher--;
            }
            swap(rise, higher);
            for (int i = rise + 1, j = size - 1; i < j; i++, j--) {
                swap(i, j);
            }
            return true;
        }

        private void swap(int i, int j) {
            int who = whoStands[i];
            whoStands[i] = whoStands[j];
            whoStands[j] = who;
        }
    }
}
