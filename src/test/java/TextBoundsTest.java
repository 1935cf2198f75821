/** Each sentence of promise 6, and of what the terms say of a TEXT, that names a boundary case. */
public final class TextBoundsTest {
    private static final Steps T = new Steps();
    private static final String TAIL = ";tires 1;keeps 1;";
    private static final String[] FIVE = {"text: swings 1;tires 1;keeps 1; = 1", "text: swings 2;tires 2;keeps 2; = 2",
        "text: swings 3;tires 3;keeps 3; = 3", "text: swings 4;tires 4;keeps 4; = 4"};

    public static void main(String[] args) {
        numbers();
        full();
        theTapeEmpties();
        sizes();
        letters();
        digits();
        blanks();
        bytesThatBeginNone();
        words();
        open();
        openEnds();
        theFirstFault();
        endsTooEarly();
        bounds();
        wraps();
        truths();
        names();
        T.end();
    }

    /** The first text's swings are E: its fault is at a place of E; -1: it has none. */
    private static void fault(String title, String e, int place) {
        T.test("6: " + title, "text: swings " + e + TAIL + " = " + (place < 0 ? 1 : -107 - place));
    }

    /** The whole text has a fault there. */
    private static void wholeFault(String title, String text, int place) {
        T.test("6: " + title, "text: " + text + " = " + (-100 - place));
    }

    /** E is worth that for tires, with beat 7, swing 5, left 5, right 7, tired 42, more 9. */
    private static void worth(String title, String e, int worth) {
        T.test("terms, E: " + title, "sets(1, 7) = 0", "mower(9, 105) = 0", "put(0, 2, 42) = 0",
            "text: swings 1;tires " + e + ";keeps 1; = 1", "force(1) = 0", "asks(1, 0) ? " + worth);
    }

    private static void numbers() {
        T.test("6: the first number is 1", "text: swings 1;tires 1;keeps 1; = 1", "count(2) ? 2", "count(4) ? 0");
        T.test("6: the last number is 5", Steps.with(FIVE, "text: swings 5;tires 5;keeps 5; = 5", "count(2) ? 6"));
        T.test("6: the law stays", "mower(0, 1) = 0", "text: swings 1;tires 9;keeps 1; = 1", "count(3) ? 0",
            "asks(1, 0) ? 1");
        T.test("6: text 0 stays, whatever comes", Steps.with(FIVE, "text: swings 5;tires 5;keeps 5; = 5",
            "mower(0, 1) = 0", "asks(0, 0) ? 3", "force(5) = 0", "asks(0, 0) ? 5", "force(1) = 5", "asks(0, 0) ? 1"));
        T.test("6: a fault takes no number", "text: swings 1; = -109", "text: swings 1;tires 1;keeps 1; = 1");
    }

    private static void full() {
        String[] six = Steps.with(FIVE, "text: swings 5;tires 5;keeps 5; = 5");
        T.test("6: full, the tape empty", Steps.with(six, "text() ! -4", "count(4) ? 0"));
        T.test("6: full, the tape stays", Steps.with(six, "feed(5, 115, 119, 105, 110, 103) = 5", "text() ! -4",
            "count(4) ? 5", "feed(1, 115, 0, 0, 0, 0) = 6"));
        T.test("6: full ahead of the fault", Steps.with(six, "feed(1, 35, 0, 0, 0, 0) = 1", "text() ! -4"));
        T.test("6: full by five texts that came, not by faults", Steps.with(FIVE, "text: # = -100", "text: # = -100",
            "text: swings 5;tires 5;keeps 5; = 5", "feed(1, 35, 0, 0, 0, 0) = 1", "text() ! -4"));
    }

    private static void theTapeEmpties() {
        T.test("6: empty behind a text", "text: swings 1;tires 1;keeps 1; = 1", "count(4) ? 0", "text() ? -100");
        T.test("6: empty behind a fault", "text: swings # = -107", "count(4) ? 0", "text() ? -100");
        T.test("6: nothing of the fault stays", "text: swings 1;tires 1; = -117", "text: swings 2;tires 2;keeps 2; = 1",
            "mower(0, 1) = 0", "force(1) = 0", "asks(0, 0) ? 2", "asks(1, 0) ? 2", "asks(2, 0) ? 2");
        T.test("6: no digit of an earlier tape is read", "text: swings 123456789 = -107", "text: swings 1234 = -111");
        T.test("6: no letter of an earlier tape is read", "text: swings 1;tires 1;keepsx = -117",
            "text: swings 1;tires 1;keeps = -122");
        T.test("6: nothing of a longer text stays", "text: swings 1;tires 1;keeps not 1; = 1",
            "text: swings 2;tires 2;keeps 2; = 2", "mower(0, 1) = 0", "force(2) = 0", "asks(2, 0) ? 2");
        T.test("6: nothing of a deep fault stays", "text: swings 1;tires ((((((1 = -120",
            "text: swings ((((((1 = -112", "text: swings (((((1)))));tires 2;keeps 2; = 1");
    }

    private static void sizes() {
        String text = "swings 1" + "+1".repeat(67) + ";tires 1;keeps 1;";
        T.test("6: 160 bytes", "text: " + text + " " + " = 1", "count(2) ? 2");
        T.test("6: 160 bytes, the last one a fault", "text: " + text + "#" + " = -259");
        T.test("6: an empty tape", "text() ? -100");
        T.test("6: a tape of one byte", "text: s = -100");
        T.test("6: a tape of one blank ends too early", "feed(1, 32, 0, 0, 0, 0) = 1", "text() = -101", "count(4) ? 0");
        T.test("6: 160 blanks", Steps.with(blanksOf(160), "text() = -260"));
    }

    private static String[] blanksOf(int n) {
        String[] steps = new String[n / 5];
        for (int i = 0; i < steps.length; i++) {
            steps[i] = "feed(5, 32, 10, 32, 10, 32) = " + (5 * i + 5);
        }
        return steps;
    }

    private static void letters() {
        fault("a is a letter", "beata", 0);
        fault("z is a letter", "beatz", 0);
        fault("the byte ahead of a is none", "beat`", 4);
        fault("the byte behind z is none", "beat{", 4);
        fault("A is no letter", "beatA", 4);
        fault("Z is no letter", "Zbeat", 0);
    }

    private static void digits() {
        fault("0 is a digit", "0", -1);
        fault("9 is a digit", "9", -1);
        fault("the byte ahead of 0 is none", "1/", 1);
        fault("the byte behind 9 is none", "1:", 1);
        fault("4 digits", "1234", -1);
        fault("5 digits", "12345", 0);
        fault("4 digits of 0", "0000", -1);
        fault("5 digits of 0", "00000", 0);
        fault("a hundred digits", "1".repeat(100), 0);
        fault("5 digits, further on", "1 + 12345", 4);
        fault("5 digits that can't stand there besides", "1 12345", 2);
        worth("the largest number", "9999 - 9998", 1);
        worth("noughts ahead", "0042", 42);
    }

    private static void blanks() {
        for (int b : new int[] {0, 9, 11, 12, 13, 31, 33, 160}) {
            fault("byte " + b + " is no blank", "1" + (char) b, 1);
        }
        T.test("6: blank 10 between all", "text: \nswings\n1\n;\ntires\n1\n;\nkeeps\n1\n;\n = 1");
        T.test("6: blank 32 between all", "text:  swings 1 ; tires 1 ; keeps 1 ;   = 1");
        T.test("6: no blank where none is needed", "text: swings(1);tires(1);keeps(1); = 1");
        wholeFault("a blank within a word", "swi ngs 1;", 0);
        fault("a blank within a number", "12 34", 3);
        wholeFault("no blank between words", "swingsbeat;", 0);
    }

    private static void bytesThatBeginNone() {
        String signs = "();+-*<=";
        for (int b = 0; b < 256; b++) {
            boolean letter = b >= 'a' && b <= 'z';
            boolean digit = b >= '0' && b <= '9';
            if (!letter && !digit && b != 32 && b != 10 && signs.indexOf((char) b) < 0) {
                fault("byte " + b + " begins none", "1 + " + (char) b, 4);
            }
        }
    }

    private static void words() {
        fault("or, then and", "1 or 1 and 1", -1);
        for (String key : new String[] {"swings", "tires", "keeps", "or", "and"}) {
            fault("a key is no name", key, 0);
        }
        for (String name : new String[] {"beat", "swing", "left", "right", "tired", "more"}) {
            fault("a name", name, -1);
            fault("a letter less", name.substring(0, name.length() - 1), 0);
            fault("a letter more", name + "x", 0);
            fault("a letter ahead", "x" + name, 0);
        }
        fault("no name at all", "x", 0);
        wholeFault("a name is no key", "swing 1;", 0);
        wholeFault("a part twice", "swings 1;swings 1;", 9);
        wholeFault("a part left out", "swings 1;keeps 1;", 9);
        wholeFault("more behind the last sign", "swings 1;tires 1;keeps 1;1", 25);
        wholeFault("one more part", "swings 1;tires 1;keeps 1;swings 1;", 25);
    }

    private static void open() {
        fault("five (", "(((((1)))))", -1);
        fault("six (", "((((((1))))))", 5);
        fault("five not", "not not not not not 1", -1);
        fault("six not", "not not not not not not 1", 20);
        fault("five -", "-----1", -1);
        fault("six -", "------1", 5);
        fault("five of all three", "not (-(-1))", -1);
        fault("a - as the sixth", "not (-(--1))", 8);
        fault("a ( as the sixth", "not (-(-(1)))", 8);
        fault("a not as the sixth", "((((( not 1)))))", 6);
        fault("a - between two is none of these", "(((((1-1-1-1-1-1-1)))))", -1);
        fault("a - ahead of a one behind a -", "(((((1 - -1)))))", 9);
        fault("five a part", "(((((1)))));tires (((((1)))));keeps (((((1)))));", 48);
    }

    private static void openEnds() {
        fault("a ( ends with its )", "(1)+(1)+(1)+(1)+(1)+(1)", -1);
        fault("five end with their )", "(((((1)))))+(((((1)))))", -1);
        fault("five end with their ), however often", "(((((1)))))+(((((1)))))+(((((1)))))+(((((1)))))+(((((1)))))", -1);
        fault("four end, the first is open still", "((((1))) + ((((1)))))", -1);
        fault("one too many behind those that ended", "((((1))) + (((((1))))))", 15);
        fault("a - ends with its one", "-1+-1+-1+-1+-1+(((((1)))))", -1);
        fault("a - is open within its one", "-(((((1)))))", 5);
        fault("a - is not open at the next factor", "-1*(((((1)))))", -1);
        fault("a not ends with its not", "not 1 and not 1 or (((((1)))))", -1);
        fault("a not is open behind a =", "not 1 = (((((1)))))", 12);
        fault("a not is open behind a +", "not 1 + (((((1)))))", 12);
        fault("a not is not open behind an and", "not 1 and (((((1)))))", -1);
        fault("nots end one by one", "not not not not not 1 and not not not not not 1", -1);
    }

    private static void theFirstFault() {
        wholeFault("of two faults the first", "swings # #", 7);
        wholeFault("a deep one ahead of a wrong one", "swings (((((( #", 12);
        wholeFault("a wrong one ahead of a deep one", "swings # ((((((", 7);
        wholeFault("a long number ahead of a wrong word", "swings 12345 wrong", 7);
        wholeFault("a sign first", ";", 0);
        wholeFault("blanks count", " \n swings # ", 10);
        fault("no ) ahead of the ;", "(1", 2);
        fault("a ) too many", "1)", 1);
        fault("two comparisons", "1 < 1 = 1", 6);
        fault("a not within a sum", "1 + not 1", 4);
        fault("a not behind a comparison's sign", "1 < not 1", 4);
        fault("nothing in brackets", "()", 1);
        fault("no one", "", 0);
        fault("a + ahead of a one", "+1", 0);
        fault("two ones", "1 beat", 2);
    }

    /** A text that ends at its place i has its fault at i, or at the token that the end has cut through. */
    private static void endsTooEarly() {
        String text = "swings 12+(beat=more);tires 1;keeps 1;";
        int[] due = {0, 0, 0, 0, 0, 0, 6, 7, 8, 9, 10, 11, 11, 11, 11, 15, 16, 16, 16, 16, 20, 21,
            22, 22, 22, 22, 22, 27, 28, 29, 30, 30, 30, 30, 30, 35, 36, 37};
        for (int i = 1; i < due.length; i++) {
            wholeFault("ends at " + i, text.substring(0, i), due[i]);
        }
        wholeFault("ends behind blanks", "swings 12 \n ", 12);
        wholeFault("a word that the end has made another", "swings 1;tires 1;keep", 17);
    }

    private static void says(String title, String text, int swings, int tires, int keeps) {
        T.test("terms, the law: " + title, "mower(0, 505) = 0", "text: " + text + " = 1", "force(1) = 0",
            "asks(0, 0) ? " + swings, "asks(1, 0) ? " + tires, "asks(2, 0) ? " + keeps);
    }

    private static void bounds() {
        says("at least", "swings 0;tires -99;keeps 0;", 0, -99, 0);
        says("below the least", "swings -1;tires -100;keeps -1;", 0, -99, 0);
        says("far below the least", "swings -9999;tires -9999;keeps -9999;", 0, -99, 0);
        says("at most", "swings 11;tires 99;keeps 11;", 11, 99, 11);
        says("beyond the most", "swings 12;tires 100;keeps 12;", 11, 99, 11);
        says("far beyond the most", "swings 9999;tires 9999;keeps 9999;", 11, 99, 11);
        says("just within the least", "swings 1;tires -98;keeps 1;", 1, -98, 1);
        says("just within the most", "swings 10;tires 98;keeps 10;", 10, 98, 10);
        says("keeps is no round", "swings 13;tires 0;keeps 13;", 11, 0, 11);
    }

    /** 8192 times 8192 is 2 to the 26th. */
    private static void wraps() {
        worth("+ wraps behind the most", "8192*8192*31+(8192*8192-1) + 1 < 0", 1);
        worth("the most itself is above 0", "0 < 8192*8192*31+(8192*8192-1)", 1);
        worth("- wraps ahead of the least", "0 < 8192*8192*32 - 1", 1);
        worth("the least itself is below 0", "8192*8192*32 < 0", 1);
        worth("- ahead of the least is the least", "-(8192*8192*32) = 8192*8192*32", 1);
        worth("- ahead of the most is 1 above the least", "-(8192*8192*32 - 1) - 1 = 8192*8192*32", 1);
        worth("* wraps to 0", "8192*8192*64", 0);
        worth("* wraps to 2 to the 26th", "8192*8192*65 = 8192*8192", 1);
        worth("< of the least and the most", "8192*8192*32 < 8192*8192*32 - 1", 1);
        worth("not of what wrapped to 0", "not 8192*8192*64", 1);
    }

    private static void truths() {
        worth("0 is false", "0 or 0", 0);
        worth("1 is true", "0 or 1", 1);
        worth("2 is true, and 1", "2 or 0", 1);
        worth("below 0 is true", "-1 and -2", 1);
        worth("the least is true", "8192*8192*32 and 1", 1);
        worth("1 and 0", "1 and 0", 0);
        worth("0 and 1", "0 and 1", 0);
        worth("0 and 0", "0 and 0", 0);
        worth("1 or 1 below 0, though their sum is 0", "1 or -1", 1);
        worth("1 and 2, though they share no bit", "1 and 2", 1);
        worth("65536 and 65536, though their product wraps to 0", "256*256 and 256*256", 1);
        worth("2 and 4 is 1", "2 and 4", 1);
        worth("not of below 0", "not (-1)", 0);
        worth("not of 0", "not 0", 1);
        worth("of likes none is less", "5 < 5", 0);
        worth("1 less", "4 < 5", 1);
        worth("1 more", "6 < 5", 0);
        worth("like", "5 = 5", 1);
        worth("1 off", "5 = 6", 0);
    }

    private static void names() {
        worth("beat", "beat", 7);
        worth("swing", "swing", 5);
        worth("left, no place there", "left", 5);
        worth("right, the gap there", "right", 7);
        worth("tired", "tired", 42);
        worth("more", "more", 9);
        T.test("terms, names at least", "mower(0, 500) = 0",
            "text: swings beat+swing;tires left+right;keeps tired+more; = 1", "force(1) = 0", "asks(0, 0) ? 0",
            "asks(1, 0) ? 0", "asks(2, 0) ? 0");
        T.test("terms, names at most", "sets(1, 11) = 0", "mower(9, 511) = 0", "put(0, 2, 99) = 0",
            "text: swings beat+swing-11;tires left+right+tired-99;keeps tired+more-97; = 1", "force(1) = 0",
            "asks(0, 0) ? 11", "asks(1, 0) ? 22", "asks(2, 0) ? 11");
    }
}
