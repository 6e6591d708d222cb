/** Promises 46 to 50: asks. */
public final class AsksTest {
    private static final int NONE = ToteHouse.NONE, UNKNOWN = ToteHouse.UNKNOWN, OUTSIDE = ToteHouse.OUTSIDE;

    public static void main(String[] args) {
        ask();
        askOfOneUnit();
        askRefusals();
        trace();
        finding();
        count();
        countOfFindings();
        digest();
        digestOfFirstAndLastPool();
        Expect.end();
    }

    private static void due(String call, long got, long want) {
        Expect.due(call, got, want);
    }

    private static void asks(ToteHouse x, int ticket, int what, int want, int... bodies) {
        String call = "46: ask(" + ticket + ", " + what + ")";
        due(call, x.ask(ticket, what), want);
        due(call + ", how many", x.count(4), bodies.length);
        for (int k = 0; k < bodies.length; k++) {
            due(call + ", trace(" + k + ")", x.trace(k), bodies[k]);
        }
        due(call + ", no more", x.trace(bodies.length), NONE);
    }

    private static void ask() {
        ToteHouse x = Days.ofAllKinds(7);
        asks(x, 0, 0, 7, 10);
        asks(x, 1, 0, 3, 11, 10);
        asks(x, 2, 0, 21, 12, 10);
        asks(x, 3, 0, 42, 13, 12, 10);
        asks(x, 4, 0, 8, 14, 10);
        asks(x, 0, 1, 35, 20, 10);
        asks(x, 1, 1, 15, 22, 20, 11, 10);
        asks(x, 2, 1, 105, 20, 12, 10);
        asks(x, 3, 1, 203, 21, 20, 13, 12, 10);
        asks(x, 4, 1, 40, 20, 14, 10);
        x.cancel(0);
        asks(x, 0, 0, 7, 10);
    }

    private static void askOfOneUnit() {
        ToteHouse x = Days.ofAllKinds(1);
        asks(x, 1, 0, 0, 11, 10);
        asks(x, 1, 1, 3, 22);
        asks(x, 0, 1, 5, 20, 10);
        asks(x, 3, 1, 23, 21, 20, 13, 12, 10);
        asks(Days.ofAllKinds(2), 1, 1, 5, 22, 20, 11, 10);
        asks(Days.ofAllKinds(1000), 3, 1, 29993, 21, 20, 13, 12, 10);
    }

    private static void askRefusals() {
        ToteHouse x = Days.ofAllKinds(1);
        x.ask(0, 0);
        due("46: ticket 5", x.ask(5, 0), UNKNOWN);
        due("46: emptied all the same", x.count(4), 0);
        x.ask(0, 0);
        due("46: what 2", x.ask(0, 2), OUTSIDE);
        due("46: emptied, too", x.trace(0), NONE);
        due("46: what -1", x.ask(0, -1), OUTSIDE);
        due("46: ticket -1 ahead of what 2", x.ask(-1, 2), UNKNOWN);
    }

    private static void trace() {
        ToteHouse x = Days.ofAllKinds(1);
        due("47: before", x.trace(0), NONE);
        x.ask(3, 0);
        due("47: 0", x.trace(0), 13);
        due("47: 2", x.trace(2), 10);
        due("47: 3", x.trace(3), NONE);
        due("47: -1", x.trace(-1), NONE);
        due("47: 100", x.trace(100), NONE);
        due("47: least", x.trace(Integer.MIN_VALUE), NONE);
        due("47: greatest", x.trace(Integer.MAX_VALUE), NONE);
        due("47: no FINDING", x.finding(), 0);
        x.ask(0, 0);
        due("47: of the latest ask()", x.trace(0), 10);
        due("47: none of an earlier one", x.trace(1), NONE);
    }

    /** One run through all FINDINGS. */
    private static ToteHouse found() {
        ToteHouse x = new ToteHouse();
        int[] latest = new int[8];
        latest[0] = x.finding();
        x.premium(0);
        latest[6] = x.finding();
        x.drawer(0, -1);
        latest[5] = x.finding();
        x.drawer(0, 2);
        x.note(0, 0, 1L, 1);
        x.satchel(0, 0, 1);
        x.gather(0, 0, 0, 0, 1);
        latest[4] = x.finding();
        x.read(0, 0);
        latest[3] = x.finding();
        x.read(0, 2);
        latest[2] = x.finding();
        x.read(0, 1);
        latest[1] = x.finding();
        for (int f = 0; f <= 6; f++) {
            due("48: latest " + f, latest[f], f);
        }
        return x;
    }

    private static void finding() {
        ToteHouse x = found();
        x.race(1);
        x.read(9, 0);
        x.race(5);
        due("48: refusals that are none, and calls that are fine, leave it", x.finding(), 1);
    }

    private static void countOfFindings() {
        ToteHouse x = found();
        for (int f = 1; f <= 6; f++) {
            due("49: one of each, " + f, x.count(10 + f), 1);
        }
        x.lose(1);
        x.lose(1);
        due("49: three NULL", x.count(11), 3);
        due("49: one INDEX still", x.count(12), 1);
    }

    private static void count() {
        ToteHouse x = Days.ofAllKinds(3);
        int[] want = {2, 5, 5, 5, 0, 0};
        for (int what = 0; what < 6; what++) {
            due("49: count(" + what + ")", x.count(what), want[what]);
        }
        due("49: -1", x.count(-1), OUTSIDE);
        for (int what = 6; what <= 10; what++) {
            due("49: " + what, x.count(what), OUTSIDE);
        }
        due("49: 17", x.count(17), OUTSIDE);
        due("49: least", x.count(Integer.MIN_VALUE), OUTSIDE);
        due("49: greatest", x.count(Integer.MAX_VALUE), OUTSIDE);
        x.cancel(0);
        x.scratch(0, 2);
        due("49: TICKETS", x.count(2), 5);
        due("49: LIVE ones, PLACE and THE DOUBLE", x.count(3), 2);
    }

    private static void digest() {
        ToteHouse x = new ToteHouse();
        long h = 17;
        due("50: new", x.digest(), 31 * h);
        x.race(3);
        x.race(2);
        due("50: RACES", x.digest(), of(0, 0, 0, 0, 0, 0, 0, 0, 0, 0));
        x.pool(0, 3, 100, 10);
        x.pool(1, 3, 0, 10);
        x.sell(0, 3, 1, 2, 3, 4);
        x.sell(0, 3, 3, 2, 1, 5);
        x.cancel(1);
        due("50: POOLS, TICKETS", x.digest(), of(
            0, 0, 0, 0, 0,
            0, 0, 0, 0,
            3, 90, 50, 0, 0, 0, 0, 0, 0, 0, 0, 0,
            7, 0, 0, 0, 0, 0, 0, 0, 0, 0, 0, 0,
            1, 2, 4, 0,
            3, 2, 5, 1,
            0));
        x.scratch(1, 2);
        x.off(0);
        x.place(0, 1, 3);
        x.place(0, 2, 1);
        x.place(0, 3, 2);
        x.official(0);
        due("50: an ORDER that is CARRIED OUT", x.digest(), of(
            2, 3, 1, 2, 0,
            0, 0, -1, 36,
            3, 90, 50, 0, 4, 0, 36, 0, 0, 0, 0, 1,
            7, 0, 0, 0, 0, 36, 0, 0, 0, 0, 0, 0,
            1, 2, 4, 0,
            3, 2, 5, 1,
            0));
        x.off(1);
        x.place(1, 1, 1);
        x.official(1);
        x.pay(0);
        due("50: THE REST", x.digest(), of(
            2, 3, 1, 2, 0,
            2, 1, -1, 36,
            3, 90, 50, 0, 4, 0, 36, 0, 0, 0, 0, 1,
            7, 0, 0, 0, 0, 36, 36, 0, 0, 0, 0, 1,
            1, 2, 4, 3,
            3, 2, 5, 1,
            36));
    }

    private static void digestOfFirstAndLastPool() {
        ToteHouse x = new ToteHouse();
        x.race(2);
        x.race(2);
        x.pool(0, 0, 0, 10);
        x.twin(0, 1, 0, 10);
        x.sell(0, 48, 2, 1, 0, 6);
        x.sell(0, 0, 2, 0, 0, 3);
        due("50: POOLS 0 and 48", x.digest(), of(
            0, 0, 0, 0,
            0, 0, 0, 0,
            0, 30, 0, 0, 0, 0, 0, 0, 0, 0, 0, 0,
            48, 60, 0, 0, 0, 0, 0, 0, 0, 0, 0, 0,
            2, 1, 6, 0,
            2, 0, 3, 0,
            0));
    }

    private static long of(int... numbers) {
        long h = 17;
        for (int n : numbers) {
            h = 31 * h + n;
        }
        return h;
    }
}
