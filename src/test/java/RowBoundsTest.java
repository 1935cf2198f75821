/** Each sentence of promises 1 to 5 and 7 to 11 that names a boundary case: the row, the tape, the law, mowers. */
public final class RowBoundsTest {
    private static final Steps T = new Steps();
    private static final int[] FIRST = {2, 0, 3, 0, 0}, MOST = {9, 11, 11, 999, 9999};
    private static final String[] SIX = {"mower(0, 0) = 0", "mower(19, 111) = 1", "mower(20, 302) = 2",
        "mower(33, 403) = 3", "mower(46, 704) = 4", "mower(59, 905) = 5"};

    public static void main(String[] args) {
        aNewObject();
        count();
        sets();
        setsTheGap();
        row();
        feedIsRefused();
        feedIsFull();
        feedTakesTheFirst();
        force();
        asks();
        mowerKindsAndPlaces();
        mowerWhereFree();
        mowersAreFull();
        putPlaces();
        putNumbers();
        told();
        toldOfOne();
        T.end();
    }

    private static void aNewObject() {
        T.test("1: no mowers", "count(0) ? 0", "count(1) ? 0", "told(0, 0) ! -5000", "told(5, 0) ! -5000");
        T.test("1: the first gap", "row(0) ? 2");
        T.test("1: the first beat", "row(1) ? 0");
        T.test("1: the first pace", "row(2) ? 3");
        T.test("1: the first stroke", "row(3) ? 0");
        T.test("1: nothing cut", "row(4) ? 0");
        T.test("1: one text, the law", "count(2) ? 1", "count(3) ? 0");
        T.test("1: an empty tape", "count(4) ? 0");
        T.test("1: no image", "back() ! -3");
        for (int s = 0; s < 4; s++) {
            T.test("1: no sheet", "cell(" + s + ", 0, 0) ! -11", "whose(" + s + ") ! -11");
        }
    }

    private static void count() {
        for (String what : new String[] {"-1", "5", "MIN", "MAX"}) {
            T.test("2: what", "count(" + what + ") ! -2");
        }
        T.test("2: nobody", "count(0) ? 0");
        T.test("2: all six", Steps.with(SIX, "count(0) ? 6"));
        T.test("2: one of six in step", Steps.with(SIX, "count(1) ? 1"));
        T.test("2: none of six in step", Steps.with(SIX, "sets(1, 1) = 0", "count(1) ? 0"));
        T.test("2: the last of six in step", Steps.with(SIX, "sets(1, 5) = 0", "count(1) ? 1"));
        T.test("2: all six in step", "mower(0, 3) = 0", "mower(0, 103) = 1", "mower(0, 303) = 2", "mower(0, 403) = 3",
            "mower(0, 503) = 4", "mower(0, 603) = 5", "sets(1, 3) = 0", "count(1) ? 6");
        T.test("2: texts and the law, the first and the last", "count(2) ? 1", "count(3) ? 0",
            "text: swings 1;tires 1;keeps 1; = 1", "count(2) ? 2", "text: swings 2;tires 2;keeps 2; = 2",
            "text: swings 3;tires 3;keeps 3; = 3", "text: swings 4;tires 4;keeps 4; = 4",
            "text: swings 5;tires 5;keeps 5; = 5", "count(2) ? 6", "count(3) ? 0", "force(5) = 0", "count(3) ? 5");
        T.test("2: a tape of 1", "feed(1, 0, 0, 0, 0, 0) = 1", "count(4) ? 1");
        T.test("2: a tape of 160", Steps.with(bytes(160), "count(4) ? 160"));
    }

    /** Feeds so many letters, by fives, the last ones one by one. */
    private static String[] bytes(int n) {
        String[] steps = new String[n / 5 + n % 5];
        for (int i = 0; i < steps.length; i++) {
            boolean five = i < n / 5;
            int has = five ? 5 * i + 5 : n / 5 * 5 + i - n / 5 + 1;
            steps[i] = "feed(" + (five ? 5 : 1) + ", 97, 98, 99, 100, 101) = " + has;
        }
        return steps;
    }

    private static void sets() {
        for (int what = 0; what < 5; what++) {
            String set = "sets(" + what + ", ";
            T.test("3: the least of " + what, set + "0) = " + FIRST[what], "row(" + what + ") ? 0");
            T.test("3: the most of " + what, set + MOST[what] + ") = " + FIRST[what],
                "row(" + what + ") ? " + MOST[what]);
            T.test("3: what it was, of " + what, set + MOST[what] + ") = " + FIRST[what], set + "1) = " + MOST[what],
                set + "1) ? 1", set + "0) = 1");
            T.test("3: beyond the most of " + what, set + (MOST[what] + 1) + ") ! -2", set + "MAX) ! -2");
            T.test("3: below the least of " + what, set + "-1) ! -2", set + "MIN) ! -2");
        }
        for (String what : new String[] {"-1", "5", "MIN", "MAX"}) {
            T.test("3: what", "sets(" + what + ", 0) ! -2");
        }
    }

    private static void setsTheGap() {
        T.test("3: somebody is there", "mower(0, 500) = 0", "sets(0, 5) ! -2", "sets(0, 4) = 2", "sets(0, 6) = 4");
        T.test("3: somebody is at the first place", "mower(0, 0) = 0", "sets(0, 0) ! -2", "sets(0, 1) = 2");
        T.test("3: somebody is at the last place", "mower(0, 900) = 0", "sets(0, 9) ! -2", "sets(0, 8) = 2");
        T.test("3: the last of six is there", Steps.with(SIX, "sets(0, 9) ! -2", "sets(0, 8) = 2"));
        T.test("3: nobody any more", "mower(0, 500) = 0", "put(0, 0, 6) = 5", "sets(0, 5) = 2", "sets(0, 6) ! -2");
        T.test("3: where it is", "sets(0, 2) ? 2");
        T.test("3: somebody at that number of places alone", "mower(0, 500) = 0", "sets(1, 5) = 0", "sets(2, 5) = 3",
            "sets(3, 5) = 0", "sets(4, 5) = 0");
    }

    private static void row() {
        for (String what : new String[] {"-1", "5", "MIN", "MAX"}) {
            T.test("4: what", "row(" + what + ") ! -2");
        }
        T.test("4: the first and the last", "sets(0, 9) = 2", "sets(4, 9999) = 0", "row(0) ? 9", "row(4) ? 9999");
    }

    private static void feedIsRefused() {
        for (String n : new String[] {"0", "6", "-1", "MIN", "MAX"}) {
            T.test("5: n", "feed(1, 97, 0, 0, 0, 0) = 1", "feed(" + n + ", 97, 97, 97, 97, 97) ! -2");
        }
        for (int i = 0; i < 5; i++) {
            String[] b = {"0", "0", "0", "0", "0"};
            b[i] = "255";
            T.test("5: byte " + i + " at most", "feed(5, " + String.join(", ", b) + ") = 5");
            for (String bad : new String[] {"-1", "256", "MIN", "MAX"}) {
                b[i] = bad;
                T.test("5: byte " + i, "feed(5, " + String.join(", ", b) + ") ! -2");
                T.test("5: byte " + i + ", of the first or not", "feed(1, " + String.join(", ", b) + ") ! -2");
            }
        }
        T.test("5: all at most", "feed(5, 255, 255, 255, 255, 255) = 5");
        T.test("5: all at least", "feed(5, 0, 0, 0, 0, 0) = 5");
    }

    private static void feedIsFull() {
        T.test("5: the last one has room", Steps.with(bytes(159), "feed(1, 0, 0, 0, 0, 0) = 160"));
        T.test("5: the last five have room", Steps.with(bytes(155), "feed(5, 0, 0, 0, 0, 0) = 160"));
        T.test("5: of two one has room", Steps.with(bytes(159), "feed(2, 0, 0, 0, 0, 0) ! -4", "count(4) ? 159"));
        T.test("5: of five four have room", Steps.with(bytes(156), "feed(5, 0, 0, 0, 0, 0) ! -4", "count(4) ? 156"));
        T.test("5: of four four have room", Steps.with(bytes(156), "feed(4, 0, 0, 0, 0, 0) = 160"));
        T.test("5: none has room", Steps.with(bytes(160), "feed(1, 0, 0, 0, 0, 0) ! -4", "feed(5, 0, 0, 0, 0, 0) ! -4"));
        T.test("5: a bad n ahead of full", Steps.with(bytes(160), "feed(0, 0, 0, 0, 0, 0) ! -2",
            "feed(6, 0, 0, 0, 0, 0) ! -2"));
        T.test("5: a bad byte ahead of full", Steps.with(bytes(160), "feed(1, 256, 0, 0, 0, 0) ! -2",
            "feed(1, 0, 0, 0, 0, -1) ! -2"));
        T.test("5: room again behind a fault", Steps.with(bytes(160), "text() = -100", "feed(5, 0, 0, 0, 0, 0) = 5"));
    }

    private static void feedTakesTheFirst() {
        // swings 1;tires 2;keeps 3; with a 9 for each byte that is beyond the first n
        T.test("5: the first n of five, in their order", "feed(5, 115, 119, 105, 110, 103) = 5",
            "feed(4, 115, 32, 49, 59, 57) = 9", "feed(3, 116, 105, 114, 57, 57) = 12",
            "feed(2, 101, 115, 57, 57, 57) = 14", "feed(1, 50, 57, 57, 57, 57) = 15", "text: ;keeps 3; = 1",
            "mower(0, 0) = 0", "force(1) = 0", "asks(0, 0) ? 1", "asks(1, 0) ? 2", "asks(2, 0) ? 3");
    }

    private static void force() {
        for (String t : new String[] {"-1", "1", "MIN", "MAX"}) {
            T.test("7: of one text", "force(" + t + ") ! -2");
        }
        T.test("7: the first", "force(0) ? 0");
        String[] six = {"text: swings 1;tires 1;keeps 1; = 1", "text: swings 2;tires 2;keeps 2; = 2",
            "text: swings 3;tires 3;keeps 3; = 3", "text: swings 4;tires 4;keeps 4; = 4",
            "text: swings 5;tires 5;keeps 5; = 5"};
        T.test("7: the last of six", Steps.with(six, "force(5) = 0", "force(5) ? 5", "force(0) = 5"));
        T.test("7: beyond six", Steps.with(six, "force(4) = 0", "force(6) ! -2", "force(-1) ! -2", "count(3) ? 4"));
        T.test("7: a text that has a fault is none", "text: swings ; = -107", "force(1) ! -2");
    }

    private static void asks() {
        T.test("8: nobody", "asks(0, 0) ! -1000");
        for (String part : new String[] {"-1", "3", "MIN", "MAX"}) {
            T.test("8: part", Steps.with(SIX, "asks(" + part + ", 0) ! -1000"));
        }
        for (String m : new String[] {"-1", "6", "MIN", "MAX"}) {
            T.test("8: mower", Steps.with(SIX, "asks(0, " + m + ") ! -1000"));
        }
        T.test("8: one more than there are", "mower(0, 0) = 0", "mower(0, 100) = 1", "asks(2, 1) ? 0",
            "asks(2, 2) ! -1000");
        T.test("8: the first and the last of six", Steps.with(SIX, "asks(0, 0) ? 4", "asks(0, 5) ? 3",
            "asks(1, 5) ? 1", "asks(2, 5) ? 0"));
    }

    private static void mowerKindsAndPlaces() {
        T.test("9: the first kind, no more", "mower(0, 0) = 0", "told(0, 3) ? 0", "told(0, 4) ? 0");
        T.test("9: the first kind, most more", "mower(9, 0) = 0", "told(0, 3) ? 0", "told(0, 4) ? 9");
        T.test("9: the second kind, no more", "mower(10, 0) = 0", "told(0, 3) ? 1", "told(0, 4) ? 0");
        T.test("9: the last kind, no more", "mower(50, 0) = 0", "told(0, 3) ? 5", "told(0, 4) ? 0");
        T.test("9: the last kind, most more", "mower(59, 0) = 0", "told(0, 3) ? 5", "told(0, 4) ? 9");
        for (String kindMore : new String[] {"-1", "60", "-10", "100", "MIN", "MAX"}) {
            T.test("9: kind and more", "mower(" + kindMore + ", 0) ! -2");
        }
        T.test("9: the first place, swing 0", "mower(0, 0) = 0", "told(0, 0) ? 0", "told(0, 1) ? 0");
        T.test("9: the first place, swing 11", "mower(0, 11) = 0", "told(0, 0) ? 0", "told(0, 1) ? 11");
        T.test("9: the last place, swing 0", "mower(0, 900) = 0", "told(0, 0) ? 9", "told(0, 1) ? 0");
        T.test("9: the last place, swing 11", "mower(0, 911) = 0", "told(0, 0) ? 9", "told(0, 1) ? 11");
        for (String placeSwing : new String[] {"-1", "12", "99", "112", "199", "912", "999", "1000", "1011", "-100",
            "MIN", "MAX"}) {
            T.test("9: place and swing", "mower(0, " + placeSwing + ") ! -2");
        }
        T.test("9: not tired as one comes", "mower(0, 0) = 0", "told(0, 2) ? 0");
        T.test("9: nor for who was there", "image() = 0", "mower(0, 0) = 0", "put(0, 2, 99) = 0", "back() = 0",
            "mower(0, 0) = 0", "told(0, 2) ? 0");
    }

    private static void mowerWhereFree() {
        T.test("9: the gap", "mower(0, 200) ! -2", "mower(0, 100) = 0", "mower(0, 300) = 1");
        T.test("9: the gap at the first place", "sets(0, 0) = 2", "mower(0, 0) ! -2", "mower(0, 100) = 0");
        T.test("9: the gap at the last place", "sets(0, 9) = 2", "mower(0, 900) ! -2", "mower(0, 800) = 0");
        T.test("9: where the gap was", "sets(0, 3) = 2", "mower(0, 200) = 0", "mower(0, 300) ! -2");
        T.test("9: who is there", "mower(0, 500) = 0", "mower(0, 500) ! -2", "mower(11, 503) ! -2", "mower(0, 400) = 1",
            "mower(0, 600) = 2");
        T.test("9: who was there", "mower(0, 500) = 0", "put(0, 0, 6) = 5", "mower(0, 500) = 1", "mower(0, 600) ! -2");
    }

    private static void mowersAreFull() {
        T.test("9: the sixth", Steps.with(SIX, "told(5, 0) ? 9", "count(0) ? 6"));
        T.test("9: tired by 0, whoever else is tired", "mower(0, 0) = 0", "put(0, 2, 99) = 0", "mower(0, 100) = 1",
            "told(1, 2) ? 0", "told(0, 2) ? 99");
        T.test("9: the seventh", Steps.with(SIX, "mower(0, 500) ! -4", "mower(59, 811) ! -4"));
        T.test("9: bad ahead of full, kind", Steps.with(SIX, "mower(60, 500) ! -2", "mower(-1, 500) ! -2"));
        T.test("9: bad ahead of full, swing", Steps.with(SIX, "mower(0, 512) ! -2"));
        T.test("9: bad ahead of full, place", Steps.with(SIX, "mower(0, 1000) ! -2", "mower(0, -1) ! -2"));
        T.test("9: bad ahead of full, the gap", Steps.with(SIX, "mower(0, 200) ! -2"));
        T.test("9: bad ahead of full, taken", Steps.with(SIX, "mower(0, 900) ! -2"));
        T.test("9: room again", Steps.with(new String[] {"mower(7, 800) = 0", "image() = 1"}, "mower(0, 0) = 1",
            "mower(0, 100) = 2", "mower(0, 300) = 3", "mower(0, 400) = 4", "mower(0, 500) = 5", "mower(0, 600) ! -4",
            "back() = 1", "mower(0, 600) = 1"));
    }

    private static void putPlaces() {
        T.test("10: the first place", "mower(0, 500) = 0", "put(0, 0, 0) = 5", "told(0, 0) ? 0");
        T.test("10: the last place", "mower(0, 500) = 0", "put(0, 0, 9) = 5", "told(0, 0) ? 9");
        for (String place : new String[] {"-1", "10", "MIN", "MAX"}) {
            T.test("10: no place", "mower(0, 500) = 0", "put(0, 0, " + place + ") ! -7");
        }
        T.test("10: the gap", "mower(0, 500) = 0", "put(0, 0, 2) ! -7", "put(0, 0, 1) = 5", "put(0, 0, 3) = 1");
        T.test("10: taken", "mower(0, 500) = 0", "mower(0, 700) = 1", "put(0, 0, 7) ! -7", "put(1, 0, 5) ! -7",
            "put(0, 0, 6) = 5", "put(1, 0, 5) = 7");
        T.test("10: one's own", Steps.with(SIX, "put(0, 0, 0) ? 0", "put(5, 0, 9) ? 9"));
    }

    private static void putNumbers() {
        T.test("10: swing at most, at least", "mower(0, 505) = 0", "put(0, 1, 11) = 5", "told(0, 1) ? 11",
            "put(0, 1, 0) = 11", "told(0, 1) ? 0");
        T.test("10: tired at most, at least", "mower(0, 505) = 0", "put(0, 2, 99) = 0", "told(0, 2) ? 99",
            "put(0, 2, 0) = 99", "told(0, 2) ? 0");
        for (String bad : new String[] {"-1", "12", "MIN", "MAX"}) {
            T.test("10: swing", "mower(0, 505) = 0", "put(0, 1, " + bad + ") ! -7");
        }
        for (String bad : new String[] {"-1", "100", "MIN", "MAX"}) {
            T.test("10: tired", "mower(0, 505) = 0", "put(0, 2, " + bad + ") ! -7");
        }
        for (String what : new String[] {"-1", "3", "MIN", "MAX"}) {
            T.test("10: what", "mower(0, 505) = 0", "put(0, " + what + ", 1) ! -7");
        }
        T.test("10: nobody", "put(0, 1, 1) ! -5");
        for (String m : new String[] {"-1", "6", "MIN", "MAX"}) {
            T.test("10: none such", Steps.with(SIX, "put(" + m + ", 1, 1) ! -5"));
        }
        T.test("10: one more than there are", "mower(0, 0) = 0", "put(0, 1, 1) = 0", "put(1, 1, 1) ! -5");
        T.test("10: none such ahead of what, v", "mower(0, 0) = 0", "put(1, 3, 1) ! -5", "put(1, 2, 100) ! -5");
        T.test("10: the last of six", Steps.with(SIX, "put(5, 2, 7) = 0", "told(5, 2) ? 7", "told(4, 2) ? 0"));
    }

    private static void told() {
        T.test("11: nobody", "told(0, 0) ! -5000");
        for (String m : new String[] {"-1", "6", "MIN", "MAX"}) {
            T.test("11: none such", Steps.with(SIX, "told(" + m + ", 0) ! -5000"));
        }
        T.test("11: one more than there are", "mower(0, 0) = 0", "told(0, 0) ? 0", "told(1, 0) ! -5000");
        for (String what : new String[] {"-1", "10", "MIN", "MAX"}) {
            T.test("11: what", "mower(0, 0) = 0", "told(0, " + what + ") ! -7000");
        }
        T.test("11: none such ahead of what", "mower(0, 0) = 0", "told(1, 10) ! -5000", "told(-1, -1) ! -5000");
    }

    private static void toldOfOne() {
        T.test("11: the first what", Steps.with(SIX, "told(0, 0) ? 0", "told(5, 0) ? 9"));
        T.test("11: the last what, not in step, in step", Steps.with(SIX, "told(5, 9) ? 0", "sets(1, 5) = 0",
            "told(5, 9) ? 1", "told(0, 9) ? 0"));
        T.test("11: clashes, or not", "mower(0, 500) = 0", "mower(0, 606) = 1", "told(0, 8) ? 1", "told(1, 8) ? 1",
            "put(1, 1, 7) = 6", "told(0, 8) ? 0", "told(1, 8) ? 0");
        T.test("11: how far, tired or not", "mower(0, 505) = 0", "put(0, 2, 98) = 0", "told(0, 6) ? 3",
            "put(0, 2, 99) = 98", "told(0, 6) ? 3");
        T.test("11: how tiring, below 0", "mower(59, 505) = 0", "told(0, 7) ? -1");
    }
}
