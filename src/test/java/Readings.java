import java.util.ArrayList;
import java.util.List;

/** All that an object can be made to tell of its state, within the calls that are promised; it is used up by that. */
final class Readings {
    private final ScythesKeepStep x;
    private final List<String> read = new ArrayList<>();

    Readings(ScythesKeepStep x) {
        this.x = x;
        readRow("now");
        readStrokes();
        readSheets();
        readTexts();
        readTape();
        add("back", x.back());
        readRow("image");
        readPairs();
    }

    int calls() {
        return read.size();
    }

    /** The first reading that the other one hasn't; nothing, if all are alike. */
    String unlike(Readings other) {
        for (int i = 0; i < Math.max(read.size(), other.read.size()); i++) {
            String mine = i < read.size() ? read.get(i) : "none";
            String others = i < other.read.size() ? other.read.get(i) : "none";
            if (!mine.equals(others)) {
                return others + ", else " + mine;
            }
        }
        return "";
    }

    private long add(String what, long answer) {
        read.add(what + " is " + answer);
        return answer;
    }

    private void readRow(String when) {
        for (int i = 0; i < 5; i++) {
            add(when + ": count " + i, x.count(i));
            add(when + ": row " + i, x.row(i));
        }
        readMowers(when);
    }

    private void readMowers(String when) {
        for (int m = 0; m < 6; m++) {
            for (int what = 0; what < 5; what++) {
                add(when + ": told " + m + ", " + what, x.told(m, what));
            }
        }
    }

    private void readStrokes() {
        for (int m = 0; m < 6; m++) {
            for (int part = 0; part < 3; part++) {
                add("asks " + part + " of " + m, x.asks(part, m));
            }
            add("clash of " + m, x.told(m, 8));
        }
        add("cut by 60", x.run(60, 0));
        add("in step behind 7", x.run(7, 1));
        add("drawn", x.drawn(3, 0));
    }

    private void readSheets() {
        for (int s = 0; s < 4; s++) {
            for (int sort = 0; sort < 3; sort++) {
                add("sheet " + s + " as of sort " + sort, x.mowersBy(s, sort, 0, 0));
            }
            add("size of sheet " + s, size(s));
            for (int m = 0; m < 3; m++) {
                add("sheet " + s + " judged by " + m, x.judge(s, m));
            }
        }
    }

    /** A sheet's size, as told by copies that put each number where it lies. */
    private int size(int s) {
        int fits = -1;
        for (int step = 32; step > 0; step /= 2) {
            if (add("copy of sheet " + s, x.copy(s, 0, s, 0, fits + step)) >= 0) {
                fits += step;
            }
        }
        return fits;
    }

    private void readTexts() {
        for (int t = 0; t < 6; t++) {
            add("force " + t, x.force(t));
            for (int part = 0; part < 3; part++) {
                add("text " + t + " asked " + part, x.asks(part, 0));
            }
        }
    }

    private void readTape() {
        int number = x.text();
        add("the tape read", number);
        add("the law by the tape", x.force(number));
        add("one more mower", x.mower(7, 101));
        for (int part = 0; part < 3; part++) {
            add("the tape asked " + part, x.asks(part, 0));
        }
    }

    /** A sheet's numbers show by the mowers that come by them, if the image has left some room. */
    private void readPairs() {
        for (int s = 0; s < 4; s++) {
            for (int sort = 0; sort < 3; sort++) {
                add("pairs of sheet " + s, x.mowersBy(s, sort, 0, 6));
            }
            readMowers("by sheet " + s);
            add("back", x.back());
        }
    }
}
