import java.util.ArrayList;
import java.util.List;

/**
 * All that an object can be made to tell of its state, within the calls that are promised; it is used up by that.
 * What follows from other readings is marked, so that a change shows just once.
 */
final class Readings {
    private static final String FOLLOWS = "~";
    private final ScythesKeepStep x;
    private final List<String> read = new ArrayList<>();
    private int calls = 0;

    Readings(ScythesKeepStep x) {
        this.x = x;
        readRow("now");
        readStrokes();
        readSheets();
        readTexts();
        readTape();
        readImage();
        readPairs();
    }

    int calls() {
        return calls;
    }

    /** The first reading that the other one hasn't; nothing, if all are alike. */
    String unlike(Readings other) {
        for (int i = 0; i < Math.max(read.size(), other.read.size()); i++) {
            String mine = i < read.size() ? read.get(i) : "none";
            String others = i < other.read.size() ? other.read.get(i) : "none";
            if (!mine.equals(others)) {
                return others + ", else " + mine;
            }
        }
        return "";
    }

    /** What another one reads otherwise, as it reads it, but for what follows from that. */
    List<String> changes(Readings other) {
        List<String> changes = new ArrayList<>();
        for (int i = 0; i < read.size(); i++) {
            String others = other.read.get(i);
            if (!read.get(i).equals(others) && !others.startsWith(FOLLOWS)) {
                changes.add(others);
            }
        }
        return changes;
    }

    private void add(String what, long... answers) {
        StringBuilder line = new StringBuilder(what + " is");
        for (long answer : answers) {
            line.append(' ').append(answer);
        }
        read.add(line.toString());
        calls += answers.length;
    }

    private void follows(String what, long... answers) {
        add(FOLLOWS + what, answers);
    }

    private void readRow(String when) {
        for (int i = 0; i < 5; i++) {
            add((i == 1 ? FOLLOWS : "") + when + ": count " + i, x.count(i));
            add(when + ": row " + i, x.row(i));
        }
        for (int m = 0; m < 6; m++) {
            readMower(when, m);
        }
    }

    private void readMower(String when, int m) {
        add(when + ": mower " + m, x.told(m, 0), x.told(m, 1), x.told(m, 2), x.told(m, 3), x.told(m, 4));
    }

    private void readStrokes() {
        for (int m = 0; m < 6; m++) {
            follows("asks of " + m, x.asks(0, m), x.asks(1, m), x.asks(2, m));
            follows("clash of " + m, x.told(m, 8));
        }
        follows("cut by 60", x.run(60, 0));
        follows("in step behind 7", x.run(7, 1));
        follows("drawn", x.drawn(3, 0));
    }

    private void readSheets() {
        for (int s = 0; s < 4; s++) {
            add("sheet " + s + " by sorts", x.mowersBy(s, 0, 0, 0), x.mowersBy(s, 1, 0, 0), x.mowersBy(s, 2, 0, 0));
            read.add("size of sheet " + s + " is " + size(s));
            follows("sheet " + s + " judged", x.judge(s, 0), x.judge(s, 1), x.judge(s, 2));
        }
    }

    /** A sheet's size, as told by copies that put each number where it lies; -1: it is missing. */
    private int size(int s) {
        int fits = -1;
        for (int step = 32; step > 0; step /= 2) {
            int copied = x.copy(s, 0, s, 0, fits + step);
            follows("copy of sheet " + s, copied);
            if (copied >= 0) {
                fits += step;
            }
        }
        return fits;
    }

    private void readTexts() {
        for (int t = 0; t < 6; t++) {
            int forced = x.force(t);
            follows("force " + t, forced);
            if (forced < 0) {
                read.add("text " + t + " is none");
            } else {
                add("text " + t, x.asks(0, 0), x.asks(1, 0), x.asks(2, 0));
            }
        }
    }

    /** What the tape reads as; whether there is no mower yet for whom to ask does not matter. */
    private void readTape() {
        int number = x.text();
        add("the tape read", number);
        follows("the law by the tape", x.force(number));
        follows("one more mower", x.mower(7, 101));
        if (number < 0) {
            read.add("the tape is none");
        } else {
            add("the tape", x.asks(0, 0), x.asks(1, 0), x.asks(2, 0));
        }
    }

    private void readImage() {
        add("back", x.back());
        readRow("image");
    }

    /** A sheet's numbers show by the mowers that come by them, if the image has left some room. */
    private void readPairs() {
        for (int s = 0; s < 4; s++) {
            int ahead = x.count(0);
            follows("pairs of sheet " + s, ahead, x.mowersBy(s, 0, 0, 6), x.mowersBy(s, 1, 0, 6), x.mowersBy(s, 2, 0, 6));
            for (int m = 0; m < 6; m++) {
                if (m < ahead) {
                    read.add("of the image");
                } else {
                    readMower("by sheet " + s, m);
                }
            }
            follows("back", x.back());
        }
    }
}
