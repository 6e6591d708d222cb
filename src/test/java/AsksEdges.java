import java.util.function.Supplier;

/** Boundary cases of promises 46 to 50: asks. */
final class AsksEdges {
    private static final int NONE = ToteHouse.NONE, UNKNOWN = ToteHouse.UNKNOWN, OUTSIDE = ToteHouse.OUTSIDE;
    private static final int LEAST = Edge.LEAST, GREATEST = Edge.GREATEST;
    private static final int WIN = 0, PLACE = 1, PAIR = 2, ORDER = 3, DOUBLE = 4;

    private AsksEdges() {
    }

    static void all() {
        weights();
        points();
        emptied();
        askRefusals();
        trace();
        finding();
        count();
        countOfFindings();
        countRefusals();
        digestOfNothing();
        digestOfAll();
    }

    private static void due(String edge, long got, long want) {
        Edge.due(edge, got, want);
    }

    /** A TICKET of a KIND is asked; the BODIES are told in the order in which they begin. */
    private static void asks(int kind, int units, int what, int want, int... bodies) {
        ToteHouse x = Days.ofAllKinds(units);
        String edge = (what == 0 ? "WEIGHT" : "POINTS") + " of " + units + " UNITS of KIND " + kind;
        due(edge, x.ask(kind, what), want);
        due(edge + ", how many BODIES", x.count(4), bodies.length);
        for (int k = 0; k < bodies.length; k++) {
            due(edge + ", BODY " + k, x.trace(k), bodies[k]);
        }
    }

    private static void weights() {
        Edge.of("Terms", "WEIGHT: WIN (10) its UNITS");
        asks(WIN, 1, 0, 1, 10);
        asks(WIN, 1000, 0, 1000, 10);
        Edge.of("Terms", "PLACE (11) what a WIN does (10 follows), by 2, cut");
        asks(PLACE, 1, 0, 0, 11, 10);
        asks(PLACE, 2, 0, 1, 11, 10);
        asks(PLACE, 3, 0, 1, 11, 10);
        asks(PLACE, 1000, 0, 500, 11, 10);
        Edge.of("Terms", "PAIR (12) its UNITS (10 follows) by 3 times");
        asks(PAIR, 1, 0, 3, 12, 10);
        asks(PAIR, 1000, 0, 3000, 12, 10);
        Edge.of("Terms", "ORDER (13) twice what a PAIR does (12 and what follows it)");
        asks(ORDER, 1, 0, 6, 13, 12, 10);
        asks(ORDER, 1000, 0, 6000, 13, 12, 10);
        Edge.of("Terms", "DOUBLE (14) its UNITS (10 follows) and 1");
        asks(DOUBLE, 1, 0, 2, 14, 10);
        asks(DOUBLE, 1000, 0, 1001, 14, 10);
    }

    private static void points() {
        Edge.of("Terms", "POINTS: of all (20) 5 times the WEIGHT (what tells that follows)");
        asks(WIN, 1, 1, 5, 20, 10);
        asks(PAIR, 1, 1, 15, 20, 12, 10);
        asks(DOUBLE, 1, 1, 10, 20, 14, 10);
        asks(WIN, 1000, 1, 5000, 20, 10);
        Edge.of("Terms", "but ORDER (21) that (20 and what follows it) less 7");
        asks(ORDER, 1, 1, 23, 21, 20, 13, 12, 10);
        asks(ORDER, 1000, 1, 29993, 21, 20, 13, 12, 10);
        Edge.of("Terms", "PLACE (22) 3, when it has just one UNIT, else what all do (20 and what follows it)");
        asks(PLACE, 1, 1, 3, 22);
        asks(PLACE, 2, 1, 5, 22, 20, 11, 10);
        asks(PLACE, 3, 1, 5, 22, 20, 11, 10);
        asks(PLACE, 1000, 1, 2500, 22, 20, 11, 10);
    }

    private static void emptied() {
        Edge.of("Terms", "(100 at most");
        ToteHouse x = Days.mixed();
        for (int i = 0; i < 50; i++) {
            x.ask(8, 1);
        }
        due("five of the latest call, not of fifty", x.count(4), 5);
        due("the last of them", x.trace(4), 10);
        Edge.of("Terms", "emptied by each call of ask(), also one that is refused");
        x.ask(4, 0);
        due("one of a shorter one", x.count(4), 1);
        due("none of the longer one ahead of it", x.trace(1), NONE);
        x.ask(15, 0);
        due("none behind UNKNOWN", x.count(4), 0);
        due("none to tell", x.trace(0), NONE);
        x.ask(8, 0);
        x.ask(8, 2);
        due("none behind OUTSIDE", x.count(4), 0);
    }

    private static void askRefusals() {
        Supplier<ToteHouse> untraced = Days.after(Days::mixed, x -> x.ask(-1, 0));
        Edge.of(46, "UNKNOWN");
        for (int ticket : new int[] {-1, 15, 200, LEAST, GREATEST}) {
            Edge.refused(untraced, "ticket " + ticket, y -> y.ask(ticket, 0), UNKNOWN);
        }
        due("ticket 200 of 200", Days.full().ask(200, 0), UNKNOWN);
        due("ticket 199 of 200", Days.full().ask(199, 0), 1);
        Edge.of(46, "OUTSIDE");
        for (int what : new int[] {-1, 2, LEAST, GREATEST}) {
            Edge.refused(untraced, "what " + what, y -> y.ask(8, what), OUTSIDE);
        }
        Edge.of(46, "UNKNOWN; OUTSIDE");
        Edge.refused(untraced, "no TICKET, what 2", y -> y.ask(15, 2), UNKNOWN);
        Edge.of(46, "what = 0 WEIGHT, 1 POINTS");
        int[] states = {0, 5, 11};
        for (int ticket : states) {
            ToteHouse x = Days.mixed();
            due("a TICKET of any state, WEIGHT of " + ticket, x.ask(ticket, 0), x.ticket(ticket, 4));
            due("a TICKET of any state, POINTS of " + ticket, x.ask(ticket, 1), 5 * x.ticket(ticket, 4));
        }
    }

    private static void trace() {
        Edge.of(47, "Number k of THE TRACE; NONE");
        Edge.asked("the first", y -> y.trace(0), 21);
        Edge.asked("the last", y -> y.trace(4), 10);
        for (int k : new int[] {-1, 5, 99, 100, 101, LEAST, GREATEST}) {
            Edge.asked("k " + k + " of five", y -> y.trace(k), NONE);
        }
        due("before ask()", new ToteHouse().trace(0), NONE);
    }

    private static void finding() {
        Edge.of(48, "(0 before any)");
        ToteHouse x = new ToteHouse();
        due("before", x.finding(), 0);
        x.race(1);
        x.read(6, 0);
        x.drawer(0, 13);
        x.coinAt(6, 0, 0);
        x.pace(0, 5);
        due("refusals that are none", x.finding(), 0);
        Edge.of(48, "The number of the latest FINDING");
        ToteHouse y = Days.mixed();
        y.read(0, 1);
        due("CAST", y.finding(), 3);
        y.read(0, 0);
        y.race(13);
        due("CAST still, behind an answer and an OUTSIDE", y.finding(), 3);
        y.lapAt(0, 2);
        due("INDEX, of a call that answers 0", y.finding(), 2);
    }

    private static void count() {
        Edge.of(49, "0 RACES, 1 POOLS, 2 TICKETS, 3 LIVE ones, 4 numbers in THE TRACE, 5 what was DEDUCTED by all POOLS");
        int[] none = {0, 0, 0, 0, 0, 0};
        int[] mixed = {4, 13, 15, 12, 5, 22};
        int[] full = {12, 1, 200, 200, 0, 0};
        for (int what = 0; what <= 5; what++) {
            int asked = what;
            due("a new one, " + what, new ToteHouse().count(what), none[what]);
            Edge.asked("the mixed day, " + what, y -> y.count(asked), mixed[what]);
            due("the full day, " + what, Days.full().count(what), full[what]);
        }
        ToteHouse x = new ToteHouse();
        for (int race = 0; race < 12; race++) {
            Days.addRace(x, 2, 0, 10);
        }
        x.twin(0, 1, 0, 10);
        due("all 49 POOLS", x.count(1), 49);
        due("DEDUCTED by THE DOUBLE", Days.ofSettledTwin().count(5), 5);
    }

    private static void countOfFindings() {
        Edge.of(49, "10 + f FINDINGS of number f (1 .. 6) ever");
        ToteHouse x = new ToteHouse();
        for (int f = 1; f <= 6; f++) {
            due("none of " + f, x.count(10 + f), 0);
        }
        x.drawer(0, 2);
        x.note(0, 0, 1L, 1);
        x.satchel(0, 0, 1);
        for (int time = 1; time <= 3; time++) {
            x.read(0, 1);
            x.read(0, 2);
            x.read(0, 0);
            x.gather(0, 0, 0, 0, 1);
            x.drawer(0, -1);
            x.premium(0);
            for (int f = 1; f <= 6; f++) {
                due(time + " of " + f, x.count(10 + f), time);
            }
        }
    }

    private static void countRefusals() {
        Edge.of(49, "OUTSIDE");
        for (int what : new int[] {-1, 6, 7, 8, 9, 10, 17, LEAST, GREATEST}) {
            Edge.refused("what " + what, y -> y.count(what), OUTSIDE);
        }
    }

    private static void digestOfNothing() {
        Edge.of(50, "h is 17");
        due("THE REST alone", new ToteHouse().digest(), 31 * 17);
        Edge.of(50, "of each TICKET a, b, UNITS, state");
        due("c is not told", ofOrder(3, 0).digest() - ofOrder(4, 0).digest(), 0);
        due("nor is the WINDOW", ofOrder(3, 0).digest() - ofOrder(3, 5).digest(), 0);
    }

    private static ToteHouse ofOrder(int c, int window) {
        ToteHouse x = Days.ofOneRace(4, 0, 10);
        x.sell(window, 3, 1, 2, c, 1);
        return x;
    }

    private static long of(int... numbers) {
        long h = 17;
        for (int n : numbers) {
            h = 31 * h + n;
        }
        return h;
    }

    private static ToteHouse ofPools(int kind, int other) {
        ToteHouse x = new ToteHouse();
        x.race(4);
        x.pool(0, kind, 0, 10);
        x.pool(0, other, 0, 10);
        return x;
    }

    private static void digestOfAll() {
        Edge.of(50, "then for each of these numbers h becomes 31 h and it, as longs that wrap");
        ToteHouse x = Days.mixed();
        long digest = x.digest();
        long h = 17;
        int[] runners = {6, 5, 4, 8};
        for (int race = 0; race < 4; race++) {
            h = 31 * h + x.raceAt(race, 0);
            for (int i = 1; i <= runners[race]; i++) {
                h = 31 * h + x.raceAt(race, 10 + i);
            }
            h = 31 * h + x.raceAt(race, 4);
        }
        for (int pool = 0; pool <= 48; pool++) {
            for (int what = 0; what <= 10 && (pool < 12 || pool == 48); what++) {
                h = what == 0 ? 31 * h + pool : h;
                h = 31 * h + x.book(pool, what);
            }
        }
        for (int t = 0; t < 15; t++) {
            for (int what : new int[] {1, 2, 4, 5}) {
                h = 31 * h + x.ticket(t, what);
            }
        }
        due("the mixed day", digest, 31 * h + x.rest());
        Edge.of(50, "of each POOL by number that number and book() 0 to 10");
        due("told in another order", ofPools(0, 3).digest() - ofPools(3, 0).digest(), 0);
        due("of another number", ofPools(0, 3).digest() == ofPools(0, 2).digest() ? 1 : 0, 0);
        Edge.of(50, "THE REST");
        ToteHouse y = new ToteHouse();
        y.race(3);
        y.pool(0, 3, 0, 10);
        y.sell(0, 3, 1, 2, 3, 1);
        Days.finish(y, 0, 3, 2, 1);
        due("10 in it", y.digest(), of(2, 3, 2, 1, 0, 3, 10, 0, 0, 0, 0, 10, 0, 0, 0, 0, 1, 1, 2, 1, 0, 10));
    }
}
