/** Each sentence of promises 12 to 15, and of the terms of a STROKE, that names a boundary case. */
public final class StrokeBoundsTest {
    private static final Steps T = new Steps();
    private static final String[] SIX = {"sets(0, 9) = 2", "mower(0, 11) = 0", "mower(0, 111) = 1", "mower(0, 211) = 2",
        "mower(0, 311) = 3", "mower(0, 411) = 4", "mower(0, 511) = 5", "text: swings 1;tires 0;keeps 0; = 1",
        "force(1) = 0"};

    public static void main(String[] args) {
        beats();
        swings();
        toldAhead();
        tiredBy99();
        tired();
        cut();
        strokesEnd();
        runNumbers();
        runWhats();
        runsInThought();
        whens();
        whenNobody();
        whenOthersWent();
        oftens();
        oftenRefuses();
        T.end();
    }

    private static void beat(int beat, int pace, int due) {
        T.test("12: beat " + beat + ", pace " + pace, "sets(1, " + beat + ") " + (beat == 0 ? "?" : "=") + " 0",
            "sets(2, " + pace + ") = 3", "stroke() = 0", "row(1) ? " + due, "row(2) ? " + pace);
        T.test("13: beat " + beat + ", pace " + pace, "sets(1, " + beat + ") " + (beat == 0 ? "?" : "=") + " 0",
            "sets(2, " + pace + ") = 3", "run(1, 3) ? " + due);
    }

    private static void beats() {
        beat(0, 0, 0);
        beat(11, 0, 11);
        beat(10, 1, 11);
        beat(11, 1, 0);
        beat(0, 11, 11);
        beat(1, 11, 0);
        beat(11, 11, 10);
        beat(6, 6, 0);
    }

    private static void swing(int swing, int far, int due, int cut) {
        T.test("12: swing " + swing + ", " + far + " on", "text: swings " + far + ";tires 0;keeps 0; = 1",
            "force(1) = 0", "mower(0, " + (500 + swing) + ") = 0", "run(1, 0) ? " + cut, "run(1, 10) ? " + due,
            "stroke() = " + cut, "told(0, 1) ? " + due, "row(4) ? " + cut);
    }

    private static void swings() {
        swing(0, 0, 0, 0);
        swing(11, 0, 11, 0);
        swing(0, 11, 11, 0);
        swing(10, 1, 11, 0);
        swing(11, 1, 0, 1);
        swing(1, 11, 0, 1);
        swing(11, 11, 10, 1);
        swing(6, 5, 11, 0);
        swing(6, 6, 0, 1);
    }

    private static void toldAhead() {
        T.test("12: all are told ahead of what any one does", "text: swings left;tires left;keeps 0; = 1",
            "force(1) = 0", "sets(0, 9) = 2", "mower(0, 3) = 0", "mower(0, 104) = 1", "mower(0, 205) = 2",
            "stroke() = 0", "told(0, 1) ? 6", "told(1, 1) ? 7", "told(2, 1) ? 9", "told(1, 2) ? 3", "told(2, 2) ? 4");
        T.test("12: the beat is told ahead, too", "text: swings beat;tires 0;keeps 0; = 1", "force(1) = 0",
            "mower(0, 500) = 0", "stroke() = 0", "told(0, 1) ? 0", "stroke() = 0", "told(0, 1) ? 3");
        T.test("12: the stroke is told ahead, too", "sets(3, 4) = 0", "sets(1, 7) = 0", "mower(50, 500) = 0",
            "stroke() = 0", "told(0, 1) ? 7", "stroke() = 0", "told(0, 1) ? 7");
        T.test("12: how tired one is is told ahead, too", "text: swings tired;tires 5;keeps 0; = 1", "force(1) = 0",
            "mower(0, 500) = 0", "stroke() = 0", "told(0, 1) ? 0", "stroke() = 0", "told(0, 1) ? 5");
        T.test("12: a clash is told ahead, too", "text: swings 3 * (swing = 0);tires 1;keeps 0; = 1", "force(1) = 0",
            "mower(0, 500) = 0", "mower(0, 606) = 1", "stroke() = 0", "told(0, 2) ? 6", "told(1, 2) ? 6",
            "stroke() = 0", "told(0, 2) ? 7", "told(1, 2) ? 7");
    }

    private static void tiredBy99() {
        T.test("12: tired by 98 one swings", "mower(0, 505) = 0", "put(0, 2, 98) = 0", "stroke() = 0", "told(0, 1) ? 8");
        T.test("12: tired by 99 one doesn't", "mower(0, 505) = 0", "put(0, 2, 99) = 0", "stroke() = 0",
            "told(0, 1) ? 5", "run(60, 10) ? 5");
        T.test("12: tired by 99 one cuts nothing", "mower(0, 511) = 0", "put(0, 2, 99) = 0", "stroke() = 0",
            "run(60, 0) ? 0");
        T.test("12: tired by 99 one rests", "mower(50, 505) = 0", "put(0, 2, 99) = 0", "stroke() = 0",
            "told(0, 2) ? 98");
        T.test("12: tired by 99 of more than one", "mower(0, 505) = 0", "mower(0, 705) = 1", "put(1, 2, 99) = 0",
            "stroke() = 0", "told(0, 1) ? 8", "told(1, 1) ? 5");
    }

    private static void tire(int tired, String tires, int kindMore, int due) {
        T.test("12: tired " + tired + ", of kind " + kindMore / 10 + " by " + tires,
            "text: swings 0;tires " + tires + ";keeps 0; = 1", "force(1) = 0", "mower(" + kindMore + ", 500) = 0",
            "put(0, 2, " + tired + ") " + (tired == 0 ? "?" : "=") + " 0", "run(1, 20) ? " + due, "stroke() = 0",
            "told(0, 2) ? " + due);
    }

    private static void tired() {
        tire(98, "1", 0, 99);
        tire(99, "1", 0, 99);
        tire(98, "2", 0, 99);
        tire(0, "99", 0, 99);
        tire(99, "99", 0, 99);
        tire(0, "-1", 0, 0);
        tire(1, "-1", 0, 0);
        tire(1, "-2", 0, 0);
        tire(99, "-99", 0, 0);
        tire(98, "-99", 0, 0);
        tire(0, "0", 0, 0);
        tire(99, "0", 0, 99);
        tire(0, "50", 20, 99);
        tire(0, "49", 20, 98);
        tire(99, "-49", 20, 1);
        tire(99, "-50", 20, 0);
        tire(0, "0", 59, 0);
        tire(1, "99", 59, 0);
        tire(9, "0", 39, 0);
        tire(8, "0", 39, 0);
        tire(10, "0", 39, 1);
    }

    private static void cut() {
        T.test("12: nobody cuts", "stroke() = 0", "row(4) ? 0", "row(3) ? 1");
        T.test("12: all six cut", Steps.with(SIX, "run(1, 0) ? 6", "stroke() = 6", "row(4) ? 6"));
        T.test("12: cut just 9999", Steps.with(SIX, "sets(4, 9993) = 0", "stroke() = 6", "row(4) ? 9999"));
        T.test("12: cut beyond 9999", Steps.with(SIX, "sets(4, 9994) = 0", "stroke() = 6", "row(4) ? 9999"));
        T.test("12: cut just below 9999", Steps.with(SIX, "sets(4, 9992) = 0", "stroke() = 6", "row(4) ? 9998"));
        T.test("12: cut at 9999", Steps.with(SIX, "sets(4, 9999) = 0", "stroke() = 6", "row(4) ? 9999"));
        T.test("13: cut beyond 9999, in thought", Steps.with(SIX, "sets(4, 9999) = 0", "run(13, 0) ? 12"));
        T.test("13: cut by more than 99", Steps.with(SIX, "force(0) = 1", "run(60, 0) ? 90"));
    }

    private static void strokesEnd() {
        T.test("12: the first stroke", "stroke() = 0", "row(3) ? 1");
        T.test("12: the last stroke", "sets(3, 998) = 0", "stroke() = 0", "row(3) ? 999");
        T.test("12: none behind the last", Steps.with(SIX, "sets(3, 999) = 0", "stroke() ! -3", "row(3) ? 999"));
        T.test("12: none behind the last, that came", "sets(3, 998) = 0", "stroke() = 0", "stroke() ! -3");
        T.test("12: nobody there, none behind the last", "sets(3, 999) = 0", "stroke() ! -3");
        T.test("12: strokes again", "sets(3, 999) = 0", "stroke() ! -3", "sets(3, 998) = 999", "stroke() = 0");
    }

    private static void runNumbers() {
        for (String n : new String[] {"-1", "61", "MIN", "MAX"}) {
            T.test("13: n", "run(" + n + ", 0) ! -2", "run(" + n + ", 3) ! -2");
        }
        T.test("13: no stroke", Steps.with(SIX, "run(0, 0) ? 0", "run(0, 1) ? 0", "run(0, 2) ? 0", "run(0, 3) ? 0",
            "run(0, 15) ? 11", "run(0, 25) ? 0"));
        T.test("13: one stroke", Steps.with(SIX, "run(1, 0) ? 6", "run(1, 1) ? 0", "run(1, 3) ? 3", "run(1, 15) ? 0"));
        T.test("13: sixty strokes", Steps.with(SIX, "run(60, 0) ? 30", "run(60, 3) ? 0", "run(60, 15) ? 11"));
        T.test("13: how tired by sixty strokes", "mower(0, 500) = 0", "run(60, 20) ? 60", "put(0, 2, 38) = 0",
            "run(60, 20) ? 98", "put(0, 2, 39) = 38", "run(60, 20) ? 99", "put(0, 2, 40) = 39", "run(60, 20) ? 99");
    }

    private static void runWhats() {
        for (String what : new String[] {"-1", "4", "9", "16", "19", "26", "MIN", "MAX"}) {
            T.test("13: what", Steps.with(SIX, "run(1, " + what + ") ! -2", "run(0, " + what + ") ! -2"));
        }
        T.test("13: nobody's", "run(1, 10) ! -2", "run(1, 20) ! -2");
        T.test("13: the last one's, of two", "mower(0, 500) = 0", "mower(0, 707) = 1", "run(1, 11) ? 10",
            "run(1, 12) ! -2", "run(1, 21) ? 1", "run(1, 22) ! -2");
        T.test("13: the first one's, of two", "mower(0, 500) = 0", "mower(29, 707) = 1", "run(1, 10) ? 4",
            "run(1, 20) ? 1", "run(1, 21) ? 2");
        T.test("13: the last one's, of six", Steps.with(SIX, "put(5, 1, 7) = 11", "put(5, 2, 9) = 0", "run(1, 15) ? 8",
            "run(1, 25) ? 9", "run(1, 14) ? 0", "run(1, 24) ? 0"));
        T.test("13: whose who isn't any more", "image() = 0", "mower(0, 500) = 0", "back() = 0", "run(1, 10) ! -2");
        T.test("13: all six in step", Steps.with(SIX, "sets(1, 11) = 0", "run(0, 1) ? 63", "sets(2, 1) = 3",
            "run(60, 1) ? 63"));
        T.test("13: all six clash", Steps.with(SIX, "put(1, 1, 5) = 11", "put(3, 1, 5) = 11", "put(5, 1, 5) = 11",
            "run(0, 2) ? 63", "run(60, 2) ? 63"));
        T.test("13: the last of six alone", Steps.with(SIX, "put(5, 1, 4) = 11", "sets(1, 5) = 0", "sets(2, 0) = 3",
            "run(1, 1) ? 32", "put(4, 0, 8) = 4", "put(5, 0, 6) = 5", "put(5, 1, 10) = 4", "sets(0, 7) = 9",
            "run(0, 2) ? 16", "put(5, 1, 11) = 10", "put(4, 1, 10) = 11", "run(0, 2) ? 32"));
        T.test("13: nobody", "run(60, 0) ? 0", "run(60, 1) ? 0", "run(60, 2) ? 0", "run(60, 3) ? 0", "run(1, 3) ? 3");
    }

    private static void runsInThought() {
        T.test("13: beyond stroke 999", Steps.with(SIX, "sets(3, 999) = 0", "run(1, 0) ? 6", "run(60, 0) ? 30",
            "run(60, 3) ? 0"));
        T.test("13: to stroke 999", Steps.with(SIX, "sets(3, 939) = 0", "run(60, 0) ? 30"));
        T.test("13: nothing of it lasts", Steps.with(SIX, "run(60, 0) ? 30", "run(1, 0) ? 6", "stroke() = 6",
            "run(11, 0) ? 0"));
    }

    private static void whens() {
        for (String what : new String[] {"-1", "3", "MIN", "MAX"}) {
            T.test("14: what", "when(" + what + ") ! -2");
        }
        String[] one = {"text: swings 1;tires 1;keeps 0; = 1", "force(1) = 0", "mower(0, 500) = 0"};
        T.test("14: in step behind none", Steps.with(one, "when(0) ? 0"));
        T.test("14: in step behind one", Steps.with(one, "put(0, 1, 2) = 0", "when(0) ? 1"));
        T.test("14: never in step", Steps.with(one, "put(0, 1, 1) = 0", "when(0) ? -1"));
        T.test("14: for the first time", Steps.with(one, "put(0, 1, 4) = 0", "when(0) ? 2"));
        T.test("14: tired behind none", Steps.with(one, "put(0, 2, 99) = 0", "when(2) ? 0"));
        T.test("14: tired behind one", Steps.with(one, "put(0, 2, 98) = 0", "when(2) ? 1"));
        T.test("14: tired behind 60", Steps.with(one, "put(0, 2, 39) = 0", "when(2) ? 60"));
        T.test("14: tired behind 61 is never", Steps.with(one, "put(0, 2, 38) = 0", "when(2) ? -1"));
        T.test("14: the last of six tired", Steps.with(SIX, "put(5, 2, 98) = 0", "when(2) ? -1", "put(5, 2, 99) = 98",
            "when(2) ? 0"));
        T.test("14: all six in step but the last", Steps.with(SIX, "sets(1, 11) = 0", "sets(2, 1) = 3",
            "put(5, 1, 10) = 11", "when(0) ? -1", "put(5, 1, 11) = 10", "when(0) ? 0"));
        T.test("14: all six in step but the first", Steps.with(SIX, "sets(1, 11) = 0", "sets(2, 1) = 3",
            "put(0, 1, 10) = 11", "when(0) ? -1"));
        String[] still = {"text: swings swing = 11;tires 1;keeps 0; = 1", "force(1) = 0", "mower(0, 511) = 0",
            "sets(2, 0) = 3"};
        T.test("14: clashes behind none", Steps.with(still, "mower(0, 605) = 1", "when(1) ? 0"));
        T.test("14: clashes behind one", Steps.with(still, "mower(0, 606) = 1", "when(1) ? 1"));
        T.test("14: two clash, a third one doesn't", Steps.with(still, "mower(0, 606) = 1", "mower(0, 801) = 2",
            "when(1) ? 1"));
        T.test("14: one clashes with the absent, another one doesn't", Steps.with(still, "mower(0, 306) = 1", "when(1) ? 0"));
        T.test("14: never clashes", Steps.with(still, "mower(0, 607) = 1", "when(1) ? -1"));
        whensAtTheEnd();
    }

    /** Tired by 1 more each stroke, one goes from 0 to 6 as he is tired by 59 (or 60), to clash or to be in step. */
    private static void whensAtTheEnd() {
        String[] last = {"mower(0, 500) = 0", "sets(1, 6) = 0", "sets(2, 0) = 3", "force(1) = 0"};
        String at59 = "text: swings 6 * (tired = 59);tires 1;keeps 0; = 1";
        String at60 = "text: swings 6 * (tired = 60);tires 1;keeps 0; = 1";
        T.test("14: in step behind 60", at59, last[0], last[1], last[2], last[3], "when(0) ? 60");
        T.test("14: in step behind 61 is never", at60, last[0], last[1], last[2], last[3], "when(0) ? -1");
        T.test("14: clashes behind 60", at59, last[0], last[3], "mower(0, 600) = 1", "put(1, 2, 70) = 0",
            "when(1) ? 60");
        T.test("14: clashes behind 61 is never", at60, last[0], last[3], "mower(0, 600) = 1", "put(1, 2, 70) = 0",
            "when(1) ? -1");
    }

    private static void whenNobody() {
        T.test("14: nobody is in step at once", "when(0) ? 0", "sets(1, 7) = 0", "when(0) ? 0");
        T.test("14: nobody clashes", "when(1) ? -1");
        T.test("14: nobody is tired", "when(2) ? -1");
    }

    private static void whenOthersWent() {
        T.test("14: who isn't any more is not tired", "image() = 0", "mower(0, 500) = 0", "put(0, 2, 99) = 0",
            "back() = 0", "when(2) ? -1");
        T.test("14: who isn't any more does not clash", "mower(0, 500) = 0", "image() = 1", "mower(0, 606) = 1",
            "when(1) ? 0", "back() = 1", "when(1) ? -1");
        T.test("14: beyond stroke 999", "sets(3, 999) = 0", "mower(0, 500) = 0", "put(0, 2, 39) = 0", "when(2) ? 60");
    }

    private static void oftens() {
        String[] one = {"text: swings 4;tires 0;keeps 0; = 1", "force(1) = 0", "mower(0, 500) = 0"};
        T.test("15: by none", Steps.with(one, "often(0, 0, 0) ? 0"));
        T.test("15: by one, no", Steps.with(one, "often(0, 1, 0) ? 0"));
        T.test("15: by one, yes", Steps.with(one, "put(0, 1, 11) = 0", "often(0, 1, 0) ? 1", "often(0, 0, 0) ? 0"));
        T.test("15: by the eleventh, by the twelfth", Steps.with(one, "often(0, 11, 0) ? 0", "often(0, 12, 0) ? 1"));
        T.test("15: by the 59th, by the 60th", Steps.with(one, "often(0, 59, 0) ? 4", "often(0, 60, 0) ? 5"));
        T.test("15: by each of 60", Steps.with(one, "sets(2, 4) = 3", "often(0, 60, 0) ? 60", "often(0, 60, 1) ? 0"));
        T.test("15: clashes by each of 60", Steps.with(one, "mower(0, 606) = 1", "often(0, 60, 1) ? 60",
            "often(1, 60, 1) ? 60", "often(0, 1, 1) ? 1", "often(0, 0, 1) ? 0"));
        T.test("15: one clashes, not another one", Steps.with(one, "mower(0, 606) = 1", "mower(0, 807) = 2",
            "often(0, 7, 1) ? 7", "often(1, 7, 1) ? 7", "often(2, 7, 1) ? 0"));
        T.test("15: the last one clashes, not the first", Steps.with(one, "mower(0, 707) = 1", "mower(0, 801) = 2",
            "often(0, 7, 1) ? 0", "often(1, 7, 1) ? 7", "often(2, 7, 1) ? 7"));
        T.test("15: the last of six", Steps.with(SIX, "sets(1, 11) = 0", "sets(2, 1) = 3", "often(5, 60, 0) ? 60",
            "often(0, 60, 0) ? 60"));
        T.test("15: as one clashes behind a stroke, not ahead", "text: swings 3 * (swing = 0);tires 0;keeps 0; = 1",
            "force(1) = 0", "mower(0, 500) = 0", "mower(0, 606) = 1", "often(0, 60, 1) ? 0", "put(1, 1, 9) = 6",
            "often(0, 60, 1) ? 60");
    }

    private static void oftenRefuses() {
        T.test("15: nobody", "often(0, 0, 0) ! -5");
        for (String m : new String[] {"-1", "6", "MIN", "MAX"}) {
            T.test("15: none such", Steps.with(SIX, "often(" + m + ", 1, 0) ! -5"));
        }
        T.test("15: one more than there are", "mower(0, 500) = 0", "often(1, 1, 0) ! -5");
        for (String n : new String[] {"-1", "61", "MIN", "MAX"}) {
            T.test("15: n", "mower(0, 500) = 0", "often(0, " + n + ", 0) ! -7", "often(0, " + n + ", 1) ! -7");
        }
        for (String what : new String[] {"-1", "2", "MIN", "MAX"}) {
            T.test("15: what", "mower(0, 500) = 0", "often(0, 1, " + what + ") ! -7");
        }
        T.test("15: none such ahead of n, what", "mower(0, 500) = 0", "often(1, 61, 0) ! -5", "often(1, 1, 2) ! -5");
    }
}
