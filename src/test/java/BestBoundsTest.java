/** Each sentence of promises 16 to 20 that names a boundary case: what is best. */
public final class BestBoundsTest {
    private static final Steps T = new Steps();
    private static final String[] BAD_NUMBERS = {"-1", "41", "MIN", "MAX"};
    private static final String[] BAD_WHATS = {"-1", "2", "MIN", "MAX"};
    /** One swings 11 on, if who is to the left (right) isn't alike; the absent stays at 5. */
    private static final String[] LEFT = {"text: swings 11 * (not left = swing);tires 0;keeps 0; = 1", "force(1) = 0",
        "sets(1, 5) = 0", "sets(2, 0) = 3"};
    private static final String[] RIGHT = {"text: swings 11 * (not right = swing);tires 0;keeps 0; = 1", "force(1) = 0",
        "sets(1, 5) = 0", "sets(2, 0) = 3"};
    private static final String[] SIX = {"sets(0, 9) = 2", "mower(0, 11) = 0", "mower(0, 111) = 1", "mower(0, 211) = 2",
        "mower(0, 311) = 3", "mower(0, 411) = 4", "mower(0, 511) = 5"};

    public static void main(String[] args) {
        gapRefuses();
        gapPlaces();
        gapWhereNobodyIs();
        gapStrokes();
        standsRefuses();
        standsPlaces();
        standsWhereFree();
        tempoRefuses();
        tempos();
        orderRefuses();
        orderOfFew();
        orderOfSix();
        meanRefuses();
        means();
        T.end();
    }

    private static void gapRefuses() {
        for (String n : BAD_NUMBERS) {
            T.test("16: n", "gap(" + n + ", 0) ! -2", "gap(" + n + ", 1) ! -2");
        }
        for (String what : BAD_WHATS) {
            T.test("16: what", "mower(0, 500) = 0", "gap(1, " + what + ") ! -2");
        }
    }

    private static void gapPlaces() {
        T.test("16: the first place", Steps.with(LEFT, "mower(0, 111) = 0", "gap(1, 0) ? 0", "gap(1, 1) ? 1"));
        T.test("16: none ahead of the first place", Steps.with(LEFT, "mower(0, 11) = 0", "gap(1, 0) ? 1",
            "gap(1, 1) ? 0"));
        T.test("16: the last place", Steps.with(RIGHT, "mower(0, 811) = 0", "gap(1, 0) ? 9", "gap(1, 1) ? 1"));
        T.test("16: none behind the last place", Steps.with(RIGHT, "mower(0, 911) = 0", "gap(1, 0) ? 0",
            "gap(1, 1) ? 0"));
        T.test("16: where the gap is now", Steps.with(LEFT, "mower(0, 311) = 0", "gap(1, 0) ? 2"));
        T.test("16: where the gap is now, of all like ones no better", Steps.with(LEFT, "gap(1, 0) ? 0"));
    }

    private static void gapWhereNobodyIs() {
        T.test("16: nobody, nothing", "gap(40, 0) ? 0", "gap(40, 1) ? 0", "gap(0, 0) ? 0", "gap(0, 1) ? 0");
        T.test("16: not where the first one is", "mower(0, 0) = 0", "gap(0, 0) ? 1");
        T.test("16: not where the second one is", "mower(0, 900) = 0", "mower(0, 0) = 1", "gap(0, 0) ? 1");
        T.test("16: not where any of six is", Steps.with(SIX, "gap(0, 0) ? 6", "gap(0, 1) ? 0"));
        T.test("16: not where somebody is, were it best there", Steps.with(LEFT, "mower(0, 511) = 0",
            "mower(0, 411) = 1", "gap(1, 0) ? 3", "gap(1, 1) ? 1"));
        T.test("16: of like ones the first", Steps.with(LEFT, "mower(0, 511) = 0", "mower(0, 711) = 1",
            "gap(1, 0) ? 4", "gap(1, 1) ? 1"));
    }

    private static void gapStrokes() {
        String[] one = Steps.with(LEFT, "mower(0, 510) = 0");
        T.test("16: no stroke", Steps.with(one, "gap(0, 0) ? 0", "gap(0, 1) ? 0"));
        T.test("16: one stroke", Steps.with(one, "gap(1, 0) ? 4", "gap(1, 1) ? 1"));
        T.test("16: five strokes, then in step", Steps.with(one, "gap(5, 1) ? 5", "gap(6, 1) ? 5", "gap(40, 1) ? 5"));
        T.test("16: forty strokes", "text: swings 11 * (not left = swing);tires 0;keeps 0; = 1", "force(1) = 0",
            "sets(2, 11) = 3", "mower(0, 511) = 0", "gap(40, 0) ? 4", "gap(40, 1) ? 37", "gap(39, 1) ? 36");
        T.test("16: beyond stroke 999", Steps.with(one, "sets(3, 999) = 0", "gap(5, 1) ? 5"));
        T.test("16: cut beyond 9999", Steps.with(one, "sets(4, 9999) = 0", "gap(5, 1) ? 5"));
    }

    private static void standsRefuses() {
        T.test("17: nobody", "stands(0, 0, 0) ! -5");
        for (String m : new String[] {"-1", "6", "MIN", "MAX"}) {
            T.test("17: none such", Steps.with(SIX, "stands(" + m + ", 1, 0) ! -5"));
        }
        T.test("17: one more than there are", "mower(0, 500) = 0", "stands(1, 1, 0) ! -5");
        for (String n : BAD_NUMBERS) {
            T.test("17: n", "mower(0, 500) = 0", "stands(0, " + n + ", 0) ! -7", "stands(0, " + n + ", 1) ! -7");
        }
        for (String what : BAD_WHATS) {
            T.test("17: what", "mower(0, 500) = 0", "stands(0, 1, " + what + ") ! -7");
        }
        T.test("17: none such ahead of n, what", "mower(0, 500) = 0", "stands(1, 41, 0) ! -5", "stands(1, 1, 2) ! -5");
    }

    private static void standsPlaces() {
        T.test("17: the first place", Steps.with(RIGHT, "sets(0, 1) = 2", "mower(0, 511) = 0", "stands(0, 1, 0) ? 0",
            "stands(0, 1, 1) ? 1"));
        T.test("17: none ahead of the first place", Steps.with(RIGHT, "sets(0, 0) = 2", "mower(0, 511) = 0",
            "stands(0, 1, 0) ? 1", "stands(0, 1, 1) ? 0"));
        T.test("17: the last place", Steps.with(LEFT, "sets(0, 8) = 2", "mower(0, 511) = 0", "stands(0, 1, 0) ? 9",
            "stands(0, 1, 1) ? 1"));
        T.test("17: none behind the last place", Steps.with(LEFT, "sets(0, 9) = 2", "mower(0, 511) = 0",
            "stands(0, 1, 0) ? 0", "stands(0, 1, 1) ? 0"));
    }

    private static void standsWhereFree() {
        T.test("17: of like ones the first", "mower(0, 500) = 0", "stands(0, 0, 0) ? 0", "stands(0, 0, 1) ? 0");
        T.test("17: not where somebody is", "mower(0, 500) = 0", "mower(0, 0) = 1", "stands(0, 0, 0) ? 1");
        T.test("17: not where the gap is", "sets(0, 0) = 2", "mower(0, 500) = 0", "stands(0, 0, 0) ? 1");
        T.test("17: one's own", "mower(0, 0) = 0", "stands(0, 0, 0) ? 0");
        T.test("17: one's own is best", Steps.with(LEFT, "mower(0, 311) = 0", "stands(0, 1, 0) ? 3",
            "stands(0, 1, 1) ? 1"));
        T.test("17: not where somebody is, were it best there", Steps.with(LEFT, "mower(0, 511) = 0",
            "mower(0, 305) = 1", "stands(0, 1, 0) ? 4", "stands(0, 1, 1) ? 1"));
        T.test("17: the first of six", Steps.with(SIX, "stands(0, 0, 0) ? 0"));
        T.test("17: the last of six", Steps.with(SIX, "stands(5, 0, 0) ? 5", "stands(5, 40, 0) ? 5"));
        T.test("17: cut beyond 9999, beyond stroke 999", Steps.with(LEFT, "mower(0, 311) = 0", "sets(3, 999) = 0",
            "sets(4, 9999) = 0", "stands(0, 1, 0) ? 3", "stands(0, 1, 1) ? 1"));
        T.test("17: forty strokes", "text: swings 11 * (not left = swing);tires 0;keeps 0; = 1", "force(1) = 0",
            "sets(2, 11) = 3", "mower(0, 511) = 0", "stands(0, 40, 0) ? 3", "stands(0, 40, 1) ? 37");
    }

    private static void tempoRefuses() {
        for (String n : BAD_NUMBERS) {
            T.test("18: n", "tempo(" + n + ", 0) ! -2", "tempo(" + n + ", 1) ! -2");
        }
        for (String what : BAD_WHATS) {
            T.test("18: what", "mower(0, 500) = 0", "tempo(1, " + what + ") ! -2");
        }
    }

    /** By the second stroke one swings what the pace is. */
    private static void tempos() {
        String[] law = {"text: swings beat;tires 0;keeps 0; = 1", "force(1) = 0"};
        T.test("18: nobody, the least", "tempo(40, 0) ? 0", "tempo(40, 1) ? 0");
        T.test("18: no stroke, the least", Steps.with(law, "mower(0, 501) = 0", "tempo(0, 0) ? 0", "tempo(0, 1) ? 0"));
        T.test("18: the greatest pace alone", Steps.with(law, "mower(0, 501) = 0", "tempo(2, 0) ? 11",
            "tempo(2, 1) ? 1"));
        T.test("18: the least that cuts", Steps.with(law, "mower(0, 511) = 0", "tempo(2, 0) ? 1", "tempo(2, 1) ? 1"));
        T.test("18: none that cuts", Steps.with(law, "mower(0, 500) = 0", "tempo(2, 0) ? 0", "tempo(2, 1) ? 0"));
        T.test("18: pace 0 alone", "text: swings 11 * (beat = 0);tires 0;keeps 0; = 1", "force(1) = 0",
            "mower(0, 511) = 0", "tempo(40, 0) ? 0", "tempo(40, 1) ? 37", "tempo(39, 1) ? 36");
        T.test("18: six", Steps.with(SIX, "tempo(1, 0) ? 0", "tempo(1, 1) ? 6"));
        T.test("18: cut beyond 9999, beyond stroke 999", Steps.with(SIX, "sets(3, 999) = 0", "sets(4, 9999) = 0",
            "tempo(1, 1) ? 6"));
        T.test("18: the pace now is no better", "sets(2, 11) = 3", "mower(0, 511) = 0", "tempo(1, 0) ? 0");
    }

    private static void orderRefuses() {
        for (String n : new String[] {"-1", "7", "MIN", "MAX"}) {
            T.test("19: n", "order(" + n + ", 0) ! -2", "order(" + n + ", 1) ! -2");
        }
        for (String what : BAD_WHATS) {
            T.test("19: what", "mower(0, 500) = 0", "order(1, " + what + ") ! -2");
        }
    }

    private static void orderOfFew() {
        T.test("19: nobody", "order(0, 0) ? 0", "order(6, 0) ? 0", "order(0, 1) ? 0", "order(6, 1) ? 0");
        T.test("19: one", "mower(0, 511) = 0", "order(0, 0) ? 1", "order(6, 0) ? 1", "order(6, 1) ? 2");
        T.test("19: two, of like ones the first", "mower(0, 511) = 0", "mower(0, 711) = 1", "order(0, 0) ? 12",
            "order(1, 0) ? 12", "order(1, 1) ? 2");
        T.test("19: two, as they aren't now", "mower(0, 711) = 0", "mower(0, 511) = 1", "order(1, 0) ? 12");
        T.test("19: two, the second to the right of the gap", Steps.with(LEFT, "mower(0, 505) = 0",
            "mower(0, 311) = 1", "order(1, 0) ? 21", "order(1, 1) ? 1"));
        T.test("19: two, the first to the right of the gap", Steps.with(LEFT, "mower(0, 511) = 0",
            "mower(0, 305) = 1", "order(1, 0) ? 12", "order(1, 1) ? 1"));
        T.test("19: at the first and the last place", Steps.with(LEFT, "sets(0, 8) = 2", "mower(0, 911) = 0",
            "mower(0, 5) = 1", "order(1, 0) ? 21", "order(1, 1) ? 1"));
    }

    private static void orderOfSix() {
        String[] law = {"text: swings 11 * (swing < left);tires 0;keeps 0; = 1", "force(1) = 0", "sets(0, 9) = 2"};
        T.test("19: six, of like ones the first", Steps.with(SIX, "order(0, 0) ? 123456", "order(0, 1) ? 0"));
        T.test("19: six, the last of all", Steps.with(law, "mower(0, 6) = 0", "mower(0, 107) = 1", "mower(0, 208) = 2",
            "mower(0, 309) = 3", "mower(0, 410) = 4", "mower(0, 511) = 5", "order(1, 0) ? 654321", "order(1, 1) ? 5"));
        T.test("19: six, the first of all", Steps.with(law, "mower(0, 11) = 0", "mower(0, 110) = 1",
            "mower(0, 209) = 2", "mower(0, 308) = 3", "mower(0, 407) = 4", "mower(0, 506) = 5",
            "order(1, 0) ? 123456", "order(1, 1) ? 5"));
        T.test("19: six, the second of all", Steps.with(law, "mower(0, 11) = 0", "mower(0, 110) = 1",
            "mower(0, 209) = 2", "mower(0, 308) = 3", "mower(0, 406) = 4", "mower(0, 507) = 5",
            "order(1, 0) ? 123465", "order(1, 1) ? 5"));
        T.test("19: six at six strokes", Steps.with(SIX, "order(6, 0) ? 123456", "order(6, 1) ? 12"));
        T.test("19: six, cut beyond 9999, beyond stroke 999", Steps.with(SIX, "sets(3, 999) = 0", "sets(4, 9999) = 0",
            "order(6, 0) ? 123456", "order(6, 1) ? 12"));
        T.test("19: six far from one another", "sets(0, 8) = 2", "mower(0, 0) = 0", "mower(0, 200) = 1",
            "mower(0, 400) = 2", "mower(0, 600) = 3", "mower(0, 700) = 4", "mower(0, 900) = 5", "order(0, 0) ? 123456");
    }

    private static void meanRefuses() {
        T.test("20: nobody", "mean(1, 0) ! NO", "mean(60, 1) ! NO");
        for (String n : new String[] {"0", "-1", "61", "MIN", "MAX"}) {
            T.test("20: n", "mower(0, 500) = 0", "mean(" + n + ", 0) ! NO", "mean(" + n + ", 1) ! NO");
        }
        for (String part : BAD_WHATS) {
            T.test("20: part", "mower(0, 500) = 0", "mean(1, " + part + ") ! NO");
        }
        T.test("20: nobody any more", "image() = 0", "mower(0, 511) = 0", "mean(1, 0) ? 1", "back() = 0",
            "mean(1, 0) ! NO");
    }

    private static void means() {
        T.test("20: nothing cut is 0 by 1", "mower(0, 500) = 0", "mean(1, 0) ? 0", "mean(1, 1) ? 1", "mean(3, 0) ? 0",
            "mean(3, 1) ? 1");
        T.test("20: all cut is 1 by 1", Steps.with(SIX, "mean(1, 0) ? 1", "mean(1, 1) ? 1"));
        T.test("20: one of six", "sets(0, 9) = 2", "mower(0, 11) = 0", "mower(0, 101) = 1", "mower(0, 201) = 2",
            "mower(0, 301) = 3", "mower(0, 401) = 4", "mower(0, 501) = 5", "mean(1, 0) ? 1", "mean(1, 1) ? 6");
        T.test("20: in lowest terms", "sets(1, 11) = 0", "mower(0, 500) = 0", "mean(4, 0) ? 1", "mean(4, 1) ? 4",
            "mean(8, 0) ? 1", "mean(8, 1) ? 4", "mean(7, 0) ? 1", "mean(7, 1) ? 7", "mean(9, 0) ? 2", "mean(9, 1) ? 9");
        T.test("20: sixty strokes of one", "sets(1, 11) = 0", "mower(0, 500) = 0", "mean(60, 0) ? 1",
            "mean(60, 1) ? 4");
        T.test("20: sixty strokes of six", Steps.with(SIX, "text: swings 11;tires 0;keeps 0; = 1", "force(1) = 0",
            "mean(60, 0) ? 11", "mean(60, 1) ? 12"));
        T.test("20: beyond stroke 999", "sets(3, 999) = 0", "mower(0, 511) = 0", "mean(1, 0) ? 1");
        T.test("20: cut beyond 9999", "sets(4, 9999) = 0", "mower(0, 511) = 0", "mean(1, 0) ? 1");
    }
}
