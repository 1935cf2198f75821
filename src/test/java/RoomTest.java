import com.sun.management.ThreadMXBean;
import java.lang.management.ManagementFactory;

/** Little room is taken: a new object is small, and no call takes any more. */
public final class RoomTest {
    private static final Due D = new Due();
    private static final ThreadMXBean ROOM = (ThreadMXBean) ManagementFactory.getThreadMXBean();
    private static long sum = 0;

    public static void main(String[] args) {
        // What loading the classes takes is none of the objects' room.
        sum += taken() + new ScythesKeepStep().count(0);
        long before = taken();
        ScythesKeepStep x = new ScythesKeepStep();
        long made = taken() - before;
        D.holds("a new object took " + made + " bytes", made < 20_000);
        Due.feedAll(x, "swings 3 + (left < right) ;tires more - tired ;keeps beat + 1;");
        for (int m = 0; m < 6; m++) {
            x.mower(11 * m, 100 * (m + 3) + m);
        }
        calls(x);
        before = taken();
        calls(x);
        long room = taken() - before;
        D.holds("calls took " + room + " bytes, " + sum, room < 10_000);
        D.end();
    }

    private static long taken() {
        return ROOM.getThreadAllocatedBytes(Thread.currentThread().getId());
    }

    private static void calls(ScythesKeepStep x) {
        for (int i = 0; i < 8; i++) {
            x.feed(3, 'n', 'o', 't', ' ', ' ');
            sum += x.text() + x.force(i % 2) + x.run(60, 0) + x.when(0) + x.often(0, 60, 1);
            sum += x.order(6, 0) + x.gap(40, 0) + x.stands(1, 40, 0) + x.tempo(40, 0) + x.mean(60, 0);
            sum += x.film(0, i % 6, 20) + x.judge(0, 1) + x.whose(0) + x.laws(0, 1) + x.stroke();
            sum += x.kinds(0, 1, 0) + x.states(0, 1, i % 4) + x.weary(0, 1, 0) + x.taken(0, 0);
            sum += x.drawn(i, 0) + x.odds(i, 40, 9, 0) + x.image() + x.back() + x.asks(1, 1) + x.told(1, 6);
            sum += x.sheet(1, 0, 40) + x.cell(1, 2, 3) + x.copy(1, 0, 0, 0, 20) + x.mowersBy(1, 0, 0, 6);
        }
    }
}
