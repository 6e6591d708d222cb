import java.lang.management.ManagementFactory;

/** What calls make is kept for a whole run: the dearest objects and calls must leave most of the room free. */
public final class RoomTest {
    /** 7.3 million fields and elements, four bytes each. */
    private static final long ROOM = 7_300_000L * 4;

    public static void main(String[] args) {
        com.sun.management.ThreadMXBean bean = (com.sun.management.ThreadMXBean) ManagementFactory.getThreadMXBean();
        long self = Thread.currentThread().getId();
        fullDay();
        long before = bean.getThreadAllocatedBytes(self);
        ToteHouse x = fullDay();
        long made = bean.getThreadAllocatedBytes(self) - before;
        Expect.holds("a full day makes " + made + " bytes, a tenth of the room at most", made <= ROOM / 10);

        before = bean.getThreadAllocatedBytes(self);
        for (int i = 0; i < 200; i++) {
            x.worst(11);
            x.odds(44, 1, 2, 3);
            x.drawer(i % 6, 12);
            x.coins(i % 6, 3, 8);
            x.note(i % 6, 4, i, 4);
            x.satchel(i % 4, 0, 10);
            x.gather(i % 4, 0, i % 6, 0, 3);
            x.shift(i % 4, 0, i % 4, 1, 9);
            x.pace(0, i % 5);
            x.remainder(0, 0, i);
            x.ask(i, 1);
            x.digest();
        }
        made = bean.getThreadAllocatedBytes(self) - before;
        Expect.holds("calls that need no new object make none: " + made + " bytes", made < 20_000);
        Expect.end();
    }

    private static ToteHouse fullDay() {
        ToteHouse x = new ToteHouse();
        for (int r = 0; r < 12; r++) {
            x.race(12);
            for (int kind = 0; kind < 4; kind++) {
                x.pool(r, kind, 100, 10);
            }
            x.lap(r, r);
        }
        x.twin(0, 1, 100, 10);
        for (int t = 0; t < 200; t++) {
            x.sell(t % 6, 44 + t % 2, 1 + t % 12, 0, 0, 1 + t);
        }
        for (int r = 0; r < 11; r++) {
            x.off(r);
            for (int i = 1; i <= 12; i++) {
                x.place(r, i, 1);
            }
            x.official(r);
        }
        return x;
    }
}
