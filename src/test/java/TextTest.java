/** Promise 6 and what the terms say of a TEXT: tokens, grammar, faults, values. */
public final class TextTest {
    private static final Due D = new Due();
    private static final String REST = ";tires 2;keeps 3;";

    public static void main(String[] args) {
        numbersOfTexts();
        values();
        wraps();
        unfinished();
        faultsOfParts();
        faultsOfTokens();
        faultsOfGrammar();
        opens();
        longest();
        D.end();
    }

    private static void numbersOfTexts() {
        ScythesKeepStep x = new ScythesKeepStep();
        for (int t = 1; t < 6; t++) {
            D.due("text " + t, Due.textOf(x, "swings " + t + REST), t);
            D.due("its tape is empty", x.count(4), 0);
            D.due("a fault between", Due.textOf(x, "swings ;"), t < 5 ? -107 : -4);
            D.due("the fault empties", x.count(4), t < 5 ? 0 : 8);
            D.due("texts", x.count(2), t + 1);
        }
        D.due("full again, ahead of the fault", x.text(), -4);
        D.due("the tape stays", x.count(4), 8);
        D.due("the law is still the first", x.count(3), 0);
        x.mower(0, 1);
        for (int t = 1; t < 6; t++) {
            x.force(t);
            D.due("text " + t + " says", x.asks(0, 0), t);
        }
        x.force(0);
        D.due("text 0 says", x.asks(0, 0), 3);
    }

    /** What E is worth for a mower with beat 7, swing 5, left 5, right 7, tired 42, more 9. */
    private static int worth(String e) {
        ScythesKeepStep x = new ScythesKeepStep();
        x.sets(1, 7);
        x.mower(9, 105);
        x.put(0, 2, 42);
        int number = Due.textOf(x, "swings 1;tires " + e + ";keeps 1;");
        x.force(number);
        return number == 1 ? x.asks(1, 0) : number;
    }

    private static void values() {
        String[] es = {"beat", "swing", "left", "right", "tired", "more", "0", "0007", "99", "9999", "-9999",
            "2+3*4", "(2+3)*4", "10-4-3", "10-(4-3)", "-3*-4", "--5", "-(2+1)", "2*3*4", "2 - -2",
            "1 or 0", "0 or 0", "5 or 7", "0 or -1", "2 and 4", "2 and 0", "0 and 0", "not 0", "not 7", "not not 7",
            "3 < 4", "4 < 3", "4 < 4", "4 = 4", "4 = 5", "-1 < 0", "not 3 < 4", "not 4 < 3", "1 + 1 = 2",
            "1 or 1 and 0", "(1 or 1) and 0", "not 0 and 0", "not (0 and 0)", "2 or 3 < 1", "(3 < 4) + 1",
            "1 = 1 and 2 = 2 or 0", "0 or 0 or 5", "1 and 2 and 3", "5*(beat=swing+2)", "not 1 or 1",
            "2 * beat - swing * 3", "(3)", "((((3))))", "7 + 5 < 3 * 5", "tired<more", "more < tired and not 0"};
        int[] worth = {7, 5, 5, 7, 42, 9, 0, 7, 99, 99, -99,
            14, 20, 3, 9, 12, 5, -3, 24, 4,
            1, 0, 1, 1, 1, 0, 0, 1, 0, 1,
            1, 0, 0, 1, 0, 1, 0, 1, 1,
            1, 0, 0, 1, 1, 2,
            1, 1, 1, 5, 1,
            -1, 3, 3, 1, 0, 1};
        for (int i = 0; i < es.length; i++) {
            D.due(es[i], worth(es[i]), worth[i]);
        }
    }

    private static void wraps() {
        D.due("2 to the 32nd is 0", worth("256*256*256*256"), 0);
        D.due("2 to the 31st is below 0", worth("256*256*256*128 < 0"), 1);
        D.due("one less is above", worth("0 < 256*256*256*128 - 1"), 1);
        D.due("minus the least is the least", worth("-(256*256*256*128) < 0"), 1);
        D.due("no wrap in a comparison", worth("256*256*256*128 < 1"), 1);
        D.due("1 behind 2 to the 32nd", worth("256*256*256*256 + 1"), 1);
    }

    private static int faultOf(String text) {
        int number = Due.textOf(new ScythesKeepStep(), text);
        return number <= -100 ? -100 - number : -1;
    }

    /** A text that is cut off anywhere has its fault at its end, or at the word that the cut spoils. */
    private static void unfinished() {
        String text = "swings 3 + (beat = swing) ; tires 1 ; keeps beat ;";
        D.due("whole", faultOf(text), -1);
        D.due("empty", faultOf(""), 0);
        D.due("blanks alone", faultOf(" \n "), 3);
        D.due("swings", faultOf("swings"), 6);
        D.due("swing", faultOf("swing"), 0);
        D.due("a blank behind", faultOf("swings "), 7);
        D.due("one number", faultOf("swings 3"), 8);
        D.due("a sign", faultOf("swings 3 + "), 11);
        D.due("open", faultOf("swings 3 + (beat = swing"), 24);
        D.due("closed", faultOf("swings 3 + (beat = swing)"), 25);
        D.due("one part", faultOf("swings 3 ;"), 10);
        D.due("spoilt word", faultOf("swings 3 ; tire"), 11);
        D.due("two parts", faultOf("swings 3 ; tires 1 ;"), 20);
        D.due("the last sign is missing", faultOf("swings 3 ; tires 1 ; keeps beat \n"), 33);
        D.due("blanks behind", faultOf(text + " \n \n"), -1);
        D.due("no blanks", faultOf("swings3+(beat=swing);tires1;keeps(beat);"), -1);
        D.due("blanks ahead", faultOf("\n\n " + text), -1);
    }

    private static void faultsOfParts() {
        D.due("another part first", faultOf("tires 1;"), 0);
        D.due("the same part again", faultOf("swings 1;swings 1;"), 9);
        D.due("keeps too early", faultOf("swings 1;keeps 1;"), 9);
        D.due("more behind the end", faultOf("swings 1;tires 2;keeps 3; 4"), 26);
        D.due("a sign behind the end", faultOf("swings 1;tires 2;keeps 3;;"), 25);
        D.due("no byte of any token behind the end", faultOf("swings 1;tires 2;keeps 3; #"), 26);
        D.due("no expression", faultOf("swings ;"), 7);
        D.due("a key for a name", faultOf("swings keeps;"), 7);
        D.due("swings for swing", faultOf("swings swings;"), 7);
    }

    private static void faultsOfTokens() {
        for (int b : new int[] {0, 1, 9, 13, 31, 33, 35, 39, 44, 46, 47, 58, 62, 63, 64, 65, 90, 91, 96, 123, 127, 200,
            255}) {
            D.due("byte " + b + " begins none", faultOf("swings 1 " + (char) b + REST), 9);
            D.due("byte " + b + " in a word", faultOf("swin" + (char) b), 0);
            D.due("byte " + b + " first", faultOf((char) b + "swings"), 0);
        }
        D.due("four digits", faultOf("swings 1234" + REST), -1);
        D.due("five digits", faultOf("swings 12345" + REST), 7);
        D.due("five noughts", faultOf("swings 1 + 00000" + REST), 11);
        D.due("fifty digits", faultOf("swings " + "9".repeat(50) + REST), 7);
        D.due("a word that is none", faultOf("swings beats" + REST), 7);
        D.due("a to z are letters", faultOf("swings beata" + REST) + faultOf("swings beatz" + REST), 14);
        D.due("a word that begins like a name", faultOf("swings bea" + REST), 7);
        D.due("a long word", faultOf("swings " + "a".repeat(100)), 7);
        D.due("words that run together", faultOf("swings notbeat" + REST), 7);
        D.due("a key that is parted", faultOf("swi ngs 1" + REST), 0);
        D.due("a number that is parted", faultOf("swings 1 2" + REST), 9);
        D.due("a number, then a word", faultOf("swings 1or 2" + REST), -1);
        D.due("a word, then a number", faultOf("swings not1" + REST), -1);
        D.due("the first fault of two", faultOf("swings 1 1 #" + REST), 9);
    }

    private static void faultsOfGrammar() {
        String[] es = {"1 < 2 < 3", "1 = 2 = 3", "1 < 2 = 3", "+1", "1 +", "1 + not 1", "- not 1", "1 * or 2", "()",
            "(1", "1)", "or 1", "1 not 2", "not", "1 and and 1", "1 < not 1", "beat swing", "* 1", "1 2", "(1 (2))",
            "1 - - ", "not or", "= 1", "(not 1) < 1 ) "};
        int[] faults = {6, 6, 6, 0, 3, 4, 2, 4, 1,
            2, 1, 0, 2, 3, 6, 4, 5, 0, 2, 3,
            6, 4, 0, 12};
        for (int i = 0; i < es.length; i++) {
            D.due(es[i], faultOf("swings " + es[i] + REST), 7 + faults[i]);
        }
        D.due("a comparison of bracketed ones", faultOf("swings (1 < 2) < 3" + REST), -1);
        D.due("a not behind and", faultOf("swings 1 and not 1 or not 1" + REST), -1);
    }

    private static void opens() {
        D.due("five brackets", faultOf("swings (((((1)))))" + REST), -1);
        D.due("six brackets", faultOf("swings ((((((1))))))" + REST), 12);
        D.due("five nots", faultOf("swings not not not not not 1" + REST), -1);
        D.due("six nots", faultOf("swings not not not not not not 1" + REST), 27);
        D.due("five minus", faultOf("swings -----1" + REST), -1);
        D.due("six minus", faultOf("swings ------1" + REST), 12);
        D.due("mixed, five", faultOf("swings not (-(not 1))" + REST), -1);
        D.due("mixed, six, a bracket", faultOf("swings not (-(not (1)))" + REST), 18);
        D.due("mixed, five, a minus", faultOf("swings not ((not -1))" + REST), -1);
        D.due("mixed, six, a minus", faultOf("swings not ((not --1))" + REST), 18);
        D.due("a bracket ends", faultOf("swings (((((1))))) + (((((2)))))" + REST), -1);
        D.due("a minus ends", faultOf("swings -1 * -1 * -1 * -1 * -1 * -1" + REST), -1);
        D.due("a minus ends with its one", faultOf("swings -1 + (((((1)))))" + REST), -1);
        D.due("a not ends", faultOf("swings not 1 and not not not not not 1" + REST), -1);
        D.due("a not lasts over a comparison", faultOf("swings not 1 = (((((1)))))" + REST), 19);
        D.due("a not lasts over a sum", faultOf("swings not 1 + (((((1)))))" + REST), 19);
        D.due("a minus between is none", faultOf("swings 1-1-1-1-1-1-(((((1)))))" + REST), -1);
        D.due("brackets of another part", faultOf("swings (1); tires (((((1))))); keeps (((((1)))));"), -1);
        D.due("a deep one that is wrong besides", faultOf("swings (((((("), 12);
    }

    private static void longest() {
        String text = "swings 1" + "+1".repeat(66) + ";tires 2;keeps 3;";
        D.due("157 bytes", text.length(), 157);
        D.due("a long sum", faultOf(text), -1);
        D.due("160 bytes", faultOf(text + "   "), -1);
        D.due("160 bytes with a fault at the last", faultOf(text + "  ;"), 159);
        D.due("too early at 160", faultOf("swings 1" + "+1".repeat(75) + " +"), 160);
        ScythesKeepStep x = new ScythesKeepStep();
        x.mower(0, 0);
        x.force(Due.textOf(x, "swings 1;tires 1" + "+1".repeat(60) + ";keeps 3;"));
        D.due("its worth", x.asks(1, 0), 61);
        D.due("a deep one", worth("0 or 2 and 8 = 4 + 4 * (0 or 2 and 8 = 4 + 4 * (0 or 2 and 11 = 4 + (beat)))"), 1);
        D.due("a deep sum", worth("1+2*(1+2*(1+2*(1+2*(1+2*1))))"), 63);
        String words = "swings beat or swing and left; tires not right = tired; keeps more < 1;";
        D.due("words of every kind", faultOf(words), -1);
    }
}
