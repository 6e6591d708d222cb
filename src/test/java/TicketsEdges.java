import java.util.function.Supplier;

/** Boundary cases of promises 11 to 23: tickets. */
final class TicketsEdges {
    private static final int UNKNOWN = ToteHouse.UNKNOWN, OUTSIDE = ToteHouse.OUTSIDE, SAME = ToteHouse.SAME,
        GONE = ToteHouse.GONE, STATE = ToteHouse.STATE, FULL = ToteHouse.FULL;
    private static final int LEAST = Edge.LEAST, GREATEST = Edge.GREATEST;
    /** POOLS of the mixed day: of RACE 1, which is SELLING and has RUNNERS 1 to 4 and 5, OUT; and THE DOUBLE. */
    private static final int WIN = 4, PLACE = 5, PAIR = 6, ORDER = 7, DOUBLE = 48;
    private static final int[] NO_WINDOWS = {-1, 6, LEAST, GREATEST};
    private static final int[] NO_POOLS = {-1, 12, 15, 47, 49, LEAST, GREATEST};
    private static final int[] NO_TICKETS = {-1, 15, 200, LEAST, GREATEST};
    /** POOL, a, b, c: one of them is no RUNNER, or does not count and is not 0. */
    private static final int[][] OUTSIDE_LINES = {
        {WIN, 0, 0, 0}, {WIN, 6, 0, 0}, {WIN, -1, 0, 0}, {WIN, 13, 0, 0}, {WIN, LEAST, 0, 0}, {WIN, GREATEST, 0, 0},
        {WIN, 1, 2, 0}, {WIN, 1, 0, 2}, {WIN, 1, -1, 0}, {WIN, 1, 0, -1}, {WIN, 1, 1, 0}, {WIN, 1, 6, 0},
        {PLACE, 0, 0, 0}, {PLACE, 6, 0, 0}, {PLACE, 1, 2, 0}, {PLACE, 1, 0, 2}, {PLACE, 1, 0, LEAST},
        {PAIR, 0, 1, 0}, {PAIR, 1, 0, 0}, {PAIR, 6, 1, 0}, {PAIR, 1, 6, 0}, {PAIR, 1, -1, 0}, {PAIR, 1, 2, 3},
        {PAIR, 1, 2, -1}, {PAIR, 0, 0, 0}, {PAIR, 6, 6, 0}, {PAIR, 1, 1, 1},
        {ORDER, 0, 1, 2}, {ORDER, 1, 0, 2}, {ORDER, 1, 2, 0}, {ORDER, 6, 1, 2}, {ORDER, 1, 6, 2}, {ORDER, 1, 2, 6},
        {ORDER, 1, 2, -1}, {ORDER, 1, 1, 6}, {ORDER, 1, 2, GREATEST}, {ORDER, LEAST, 1, 2},
        {DOUBLE, 0, 1, 0}, {DOUBLE, 1, 0, 0}, {DOUBLE, 6, 1, 0}, {DOUBLE, 1, 9, 0}, {DOUBLE, 1, 1, 1},
        {DOUBLE, 1, 1, -1}, {DOUBLE, 1, GREATEST, 0}};
    private static final int[][] SAME_LINES = {
        {PAIR, 1, 1, 0}, {PAIR, 5, 5, 0}, {ORDER, 1, 1, 2}, {ORDER, 1, 2, 1}, {ORDER, 2, 1, 1}, {ORDER, 3, 3, 3}};

    private TicketsEdges() {
    }

    static void all() {
        sell();
        sellUnknownAndOutside();
        sellSameAndGone();
        sellStateAndFull();
        cancel();
        cancelRefusals();
        pay();
        ticket();
        ticketRefusals();
        units();
        dividend();
        dividendRefusals();
        odds();
        oddsRefusals();
        book();
        bookRefusals();
        restAndUnclaimed();
        worst();
        worstRefusals();
        worstDue();
        premium();
    }

    private static void due(String edge, long got, long want) {
        Edge.due(edge, got, want);
    }

    private static String said(int[] line) {
        return "pool " + line[0] + ", " + line[1] + ", " + line[2] + ", " + line[3];
    }

    private static void sell() {
        Edge.of(11, "A TICKET is sold: its number");
        ToteHouse x = Days.full();
        due("the last of 200", x.ticket(199, 0), 44);
        ToteHouse y = Days.mixed();
        due("the next one of fifteen, WINDOW 0, UNITS 1, the first RUNNER", y.sell(0, WIN, 1, 0, 0, 1), 15);
        due("WINDOW 5, UNITS 1000, the last RUNNER", y.sell(5, DOUBLE, 4, 8, 0, 1000), 16);
        due("one number twice in THE DOUBLE", y.sell(5, DOUBLE, 4, 4, 0, 1), 17);
        due("its STAKES", y.book(DOUBLE, 0), 10 * (6 + 1 + 1000 + 1));
        due("RUNNER 12 of twelve", Days.ofOneRace(12, 0, 10).sell(0, 3, 12, 11, 10, 1), 0);
    }

    private static void sellUnknownAndOutside() {
        Edge.of(11, "UNKNOWN: the WINDOW, the POOL");
        for (int window : NO_WINDOWS) {
            Edge.refused("window " + window, y -> y.sell(window, WIN, 1, 0, 0, 1), UNKNOWN);
        }
        for (int pool : NO_POOLS) {
            Edge.refused("pool " + pool, y -> y.sell(0, pool, 1, 0, 0, 1), UNKNOWN);
        }
        Edge.refused(Days::bare, "no DOUBLE", y -> y.sell(0, DOUBLE, 1, 1, 0, 1), UNKNOWN);
        Edge.of(11, "the POOL; OUTSIDE: UNITS");
        Edge.refused("no WINDOW, no UNITS", y -> y.sell(6, WIN, 1, 0, 0, 0), UNKNOWN);
        Edge.refused("no POOL, no RUNNER", y -> y.sell(0, 12, 0, 0, 0, 1), UNKNOWN);
        Edge.of(11, "OUTSIDE: UNITS");
        for (int units : new int[] {0, 1001, -1, LEAST, GREATEST}) {
            Edge.refused("units " + units, y -> y.sell(0, WIN, 1, 0, 0, units), OUTSIDE);
        }
        Edge.of(11, "OUTSIDE: UNITS, RUNNERS");
        for (int[] line : OUTSIDE_LINES) {
            Edge.refused(said(line), y -> y.sell(0, line[0], line[1], line[2], line[3], 1), OUTSIDE);
        }
    }

    private static void sellSameAndGone() {
        Edge.of(11, "SAME: two RUNNERS of PAIR, ORDER are one");
        for (int[] line : SAME_LINES) {
            Edge.refused(said(line), y -> y.sell(0, line[0], line[1], line[2], line[3], 1), SAME);
        }
        Edge.of(11, "RUNNERS; SAME: two RUNNERS of PAIR, ORDER are one");
        Edge.refused("one RUNNER twice, no UNITS", y -> y.sell(0, PAIR, 1, 1, 0, 0), OUTSIDE);
        Edge.refused("one RUNNER twice, and no third", y -> y.sell(0, ORDER, 1, 1, 0, 1), OUTSIDE);
        Edge.of(11, "GONE: one is OUT");
        Edge.refused("a of WIN", y -> y.sell(0, WIN, 5, 0, 0, 1), GONE);
        Edge.refused("a of PLACE", y -> y.sell(0, PLACE, 5, 0, 0, 1), GONE);
        Edge.refused("a of PAIR", y -> y.sell(0, PAIR, 5, 1, 0, 1), GONE);
        Edge.refused("b of PAIR", y -> y.sell(0, PAIR, 1, 5, 0, 1), GONE);
        Edge.refused("a of ORDER", y -> y.sell(0, ORDER, 5, 1, 2, 1), GONE);
        Edge.refused("b of ORDER", y -> y.sell(0, ORDER, 1, 5, 2, 1), GONE);
        Edge.refused("c of ORDER", y -> y.sell(0, ORDER, 1, 2, 5, 1), GONE);
        Edge.refused("a of THE DOUBLE, though it has a SUBSTITUTE", y -> y.sell(0, DOUBLE, 5, 1, 0, 1), GONE);
        due("b of THE DOUBLE is no RUNNER of the FIRST", Days.mixed().sell(0, DOUBLE, 1, 5, 0, 1), 15);
        Supplier<ToteHouse> second = Days.after(Days::mixed, x -> x.scratch(3, 1));
        Edge.refused(second, "b of THE DOUBLE", y -> y.sell(0, DOUBLE, 1, 1, 0, 1), GONE);
        Edge.refused("no UNITS are OUTSIDE ahead of it", y -> y.sell(0, WIN, 5, 0, 0, 0), OUTSIDE);
        Edge.of(11, "two RUNNERS of PAIR, ORDER are one; GONE: one is OUT");
        Edge.refused("one that is OUT, twice", y -> y.sell(0, PAIR, 5, 5, 0, 1), SAME);
    }

    private static void sellStateAndFull() {
        Edge.of(11, "STATE: a RACE of the POOL is not SELLING");
        Edge.refused("OFF", y -> y.sell(0, 8, 1, 0, 0, 1), STATE);
        Edge.refused("OFFICIAL", y -> y.sell(0, 0, 1, 0, 0, 1), STATE);
        Edge.refused("OUTSIDE ahead of it", y -> y.sell(0, 8, 1, 0, 0, 1001), OUTSIDE);
        Edge.refused("SAME ahead of it", y -> y.sell(0, 2, 1, 1, 0, 1), SAME);
        for (int race : new int[] {1, 3}) {
            Supplier<ToteHouse> day = Days.after(Days::mixed, x -> x.off(race));
            Edge.refused(day, "RACE " + race + " of THE DOUBLE is OFF", y -> y.sell(0, DOUBLE, 1, 1, 0, 1), STATE);
        }
        Edge.of(11, "GONE: one is OUT; STATE: a RACE of the POOL is not SELLING");
        Edge.refused("OUT, and OFF", y -> y.sell(0, 8, 4, 0, 0, 1), GONE);
        Edge.of(11, "FULL");
        Edge.refused(Days::full, "a TICKET more than 200", y -> y.sell(0, 44, 1, 0, 0, 1), FULL);
        Edge.refused(Days::full, "OUTSIDE ahead of it", y -> y.sell(0, 44, 13, 0, 0, 1), OUTSIDE);
        Supplier<ToteHouse> cancelled = Days.after(Days::full, x -> x.cancel(0));
        Edge.refused(cancelled, "one CANCELLED is one of them still", y -> y.sell(0, 44, 1, 0, 0, 1), FULL);
        Edge.of(11, "STATE: a RACE of the POOL is not SELLING; FULL");
        Supplier<ToteHouse> off = Days.after(Days::full, x -> x.off(11));
        Edge.refused(off, "OFF, and 200 TICKETS", y -> y.sell(0, 44, 1, 0, 0, 1), STATE);
    }

    private static void cancel() {
        Edge.of(12, "A TICKET is CANCELLED: its STAKE");
        ToteHouse x = Days.ofOneRace(12, 0, 10);
        x.sell(0, 0, 1, 0, 0, 1);
        due("the least", x.cancel(0), 10);
        due("its state", x.ticket(0, 5), 1);
        due("no LIVE UNITS are left", x.units(0, 1, 0, 0), 0);
        ToteHouse y = Days.ofOneRace(12, 0, 1000);
        y.sell(0, 0, 1, 0, 0, 1000);
        due("the greatest", y.cancel(0), 1_000_000);
        due("the last of 200", Days.full().cancel(199), 10);
        Edge.of(12, "or the RACE (of THE DOUBLE the FIRST) is not SELLING");
        Edge.refused("OFF", z -> z.cancel(12), STATE);
        Edge.refused("OFFICIAL, LIVE", z -> z.cancel(1), STATE);
        ToteHouse second = Days.mixed();
        second.off(3);
        due("the SECOND is OFF", second.cancel(9), 60);
        Days.finish(second, 3, 1, 2, 3);
        due("the SECOND is OFFICIAL", second.cancel(10), 10);
        Supplier<ToteHouse> first = Days.after(Days::mixed, z -> z.off(1));
        Edge.refused(first, "the FIRST is OFF", z -> z.cancel(9), STATE);
    }

    private static void cancelRefusals() {
        Edge.of(12, "UNKNOWN");
        for (int ticket : NO_TICKETS) {
            Edge.refused("ticket " + ticket, y -> y.cancel(ticket), UNKNOWN);
        }
        Edge.of(12, "STATE: it is not LIVE");
        Edge.refused("CANCELLED", y -> y.cancel(11), STATE);
        Edge.refused("REFUNDED", y -> y.cancel(5), STATE);
        Edge.refused("PAID", y -> y.cancel(0), STATE);
    }

    private static void pay() {
        Edge.of(13, "A TICKET is PAID: what is DUE");
        ToteHouse x = Days.mixed();
        due("30", x.pay(2), 30);
        due("its state", x.ticket(2, 5), 3);
        due("nothing, as it did not WIN", x.pay(1), 0);
        due("PAID all the same", x.ticket(1, 5), 3);
        due("nothing, of an ORDER that was CARRIED OUT", x.pay(3), 0);
        Edge.of(13, "UNKNOWN");
        for (int ticket : NO_TICKETS) {
            Edge.refused("ticket " + ticket, y -> y.pay(ticket), UNKNOWN);
        }
        Edge.of(13, "STATE: it is not LIVE");
        Edge.refused("PAID", y -> y.pay(0), STATE);
        Supplier<ToteHouse> settled = Days.after(Days::mixed, y -> Days.finish(y, 1, 1, 2, 3));
        Edge.refused(settled, "REFUNDED when its RUNNER was taken OUT", y -> y.pay(5), STATE);
        Edge.refused(settled, "REFUNDED when its POOL was SETTLED", y -> y.pay(6), STATE);
        Edge.refused(settled, "CANCELLED", y -> y.pay(11), STATE);
        Edge.of(13, "or its POOL is not SETTLED");
        Edge.refused("SELLING", y -> y.pay(4), STATE);
        Edge.refused("OFF", y -> y.pay(12), STATE);
        Edge.refused(settled, "one RACE of THE DOUBLE is not OFFICIAL", y -> y.pay(9), STATE);
    }

    private static void ticket() {
        Edge.of(14, "0 its POOL, 1, 2, 3 a, b, c, 4 UNITS, 5 its state, 6 the WINDOW");
        int[][] want = {{4, 1, 0, 0, 2, 0, 0}, {4, 5, 0, 0, 2, 2, 0}, {5, 2, 0, 0, 7, 0, 0}, {6, 1, 2, 0, 8, 0, 0},
            {7, 1, 2, 3, 9, 0, 0}, {48, 1, 8, 0, 6, 0, 5}, {48, 2, 7, 0, 1, 0, 5}, {4, 3, 0, 0, 2, 1, 0}};
        for (int t = 0; t < want.length; t++) {
            for (int what = 0; what < 7; what++) {
                int number = 4 + t;
                int asked = what;
                Edge.asked("ticket " + number + ", " + what, y -> y.ticket(number, asked), want[t][what]);
            }
        }
        Edge.of(14, "7 what is DUE (0 when its POOL is not SETTLED, or it is CANCELLED, REFUNDED)");
        Edge.asked("LIVE", y -> y.ticket(2, 7), 30);
        Edge.asked("PAID", y -> y.ticket(0, 7), 100);
        Edge.asked("it did not WIN", y -> y.ticket(1, 7), 0);
        Edge.asked("not SETTLED", y -> y.ticket(4, 7), 0);
        ToteHouse x = Days.mixed();
        Days.finish(x, 1, 2, 3, 1);
        due("SETTLED, and its RUNNER WINS, but it is CANCELLED", x.ticket(11, 7), 0);
        due("all was REFUNDED", x.ticket(13, 7), 0);
        due("REFUNDED", x.ticket(5, 7), 0);
        ToteHouse z = new ToteHouse();
        z.race(3);
        z.pool(0, 0, 0, 10);
        z.sell(0, 0, 1, 0, 0, 1);
        z.sell(0, 0, 1, 0, 0, 2);
        z.cancel(1);
        Days.finish(z, 0, 1, 2, 3);
        due("a DIVIDEND for its RUNNER, LIVE", z.ticket(0, 7), 10);
        due("a DIVIDEND for its RUNNER, CANCELLED", z.ticket(1, 7), 0);
    }

    private static void ticketRefusals() {
        Edge.of(14, "UNKNOWN");
        for (int ticket : NO_TICKETS) {
            Edge.refused("ticket " + ticket, y -> y.ticket(ticket, 0), UNKNOWN);
        }
        due("ticket 200 of 200", Days.full().ticket(200, 0), UNKNOWN);
        Edge.of(14, "OUTSIDE");
        for (int what : new int[] {-1, 8, LEAST, GREATEST}) {
            Edge.refused("what " + what, y -> y.ticket(0, what), OUTSIDE);
        }
        Edge.of(14, "UNKNOWN; OUTSIDE");
        Edge.refused("no TICKET, what 8", y -> y.ticket(15, 8), UNKNOWN);
    }

    private static void units() {
        Edge.of(15, "LIVE UNITS of a POOL for RUNNERS");
        Edge.asked("none", y -> y.units(WIN, 4, 0, 0), 0);
        Edge.asked("none are LIVE: one TICKET is CANCELLED", y -> y.units(WIN, 3, 0, 0), 0);
        Edge.asked("none of a RUNNER that is OUT", y -> y.units(WIN, 5, 0, 0), 0);
        Edge.asked("those that are not PAID", y -> y.units(0, 1, 0, 0), 3);
        Edge.asked("THE DOUBLE of the SUBSTITUTE", y -> y.units(DOUBLE, 2, 7, 0), 1);
        Edge.asked("THE DOUBLE of the RUNNER that is OUT", y -> y.units(DOUBLE, 5, 7, 0), 0);
        Edge.asked("ORDER, in another order", y -> y.units(ORDER, 3, 2, 1), 0);
        ToteHouse x = Days.ofOneRace(12, 0, 10);
        for (int t = 0; t < 200; t++) {
            x.sell(0, 3, 12, 11, 10, 1000);
        }
        due("the most", x.units(3, 12, 11, 10), 200_000);
        Edge.of(15, "(of PAIR in either order)");
        Edge.asked("the lesser first", y -> y.units(PAIR, 1, 2, 0), 8);
        Edge.asked("the greater first", y -> y.units(PAIR, 2, 1, 0), 8);
        Edge.of(15, "UNKNOWN");
        for (int pool : NO_POOLS) {
            Edge.refused("pool " + pool, y -> y.units(pool, 1, 0, 0), UNKNOWN);
        }
        Edge.refused("no POOL, no RUNNER", y -> y.units(12, 0, 0, 0), UNKNOWN);
        Edge.of(15, "OUTSIDE");
        for (int[] line : OUTSIDE_LINES) {
            Edge.refused(said(line), y -> y.units(line[0], line[1], line[2], line[3]), OUTSIDE);
        }
        Edge.of(15, "SAME");
        for (int[] line : SAME_LINES) {
            Edge.refused(said(line), y -> y.units(line[0], line[1], line[2], line[3]), SAME);
        }
        due("THE DOUBLE has none", Days.mixed().units(DOUBLE, 1, 1, 0), 0);
    }

    private static void dividend() {
        Edge.of(16, "0 if they did not WIN, or had no LIVE UNITS, or all was REFUNDED");
        Edge.asked("it did WIN", y -> y.dividend(0, 1, 0, 0), 10);
        Edge.asked("it did not", y -> y.dividend(0, 2, 0, 0), 0);
        Edge.asked("no LIVE UNITS", y -> y.dividend(2, 1, 2, 0), 0);
        Edge.asked("ORDER, CARRIED OUT", y -> y.dividend(3, 3, 2, 1), 0);
        ToteHouse x = Days.mixed();
        Days.finish(x, 1, 2, 3, 1);
        due("all was REFUNDED, of one that did not WIN", x.dividend(WIN, 2, 0, 0), 0);
        due("all was REFUNDED, of one that did", x.dividend(WIN, 3, 0, 0), 0);
        due("VOID", x.dividend(PLACE, 2, 0, 0), 0);
        due("a RUNNER that is OUT", x.dividend(WIN, 5, 0, 0), 0);
    }

    private static void dividendRefusals() {
        Edge.of(16, "UNKNOWN");
        for (int pool : NO_POOLS) {
            Edge.refused("pool " + pool, y -> y.dividend(pool, 1, 0, 0), UNKNOWN);
        }
        Edge.of(16, "OUTSIDE");
        for (int[] line : OUTSIDE_LINES) {
            Edge.refused(said(line) + ", ahead of STATE", y -> y.dividend(line[0], line[1], line[2], line[3]), OUTSIDE);
        }
        Edge.refused("RUNNER 7 of six, SETTLED", y -> y.dividend(0, 7, 0, 0), OUTSIDE);
        Edge.of(16, "SAME");
        for (int[] line : SAME_LINES) {
            Edge.refused(said(line) + ", ahead of STATE", y -> y.dividend(line[0], line[1], line[2], line[3]), SAME);
        }
        Edge.refused("one twice, SETTLED", y -> y.dividend(2, 6, 6, 0), SAME);
        Edge.of(16, "STATE: it is not SETTLED");
        Edge.refused("SELLING", y -> y.dividend(WIN, 1, 0, 0), STATE);
        Edge.refused("OFF", y -> y.dividend(8, 1, 0, 0), STATE);
        Supplier<ToteHouse> first = Days.after(Days::mixed, x -> Days.finish(x, 1, 1, 2, 3));
        Edge.refused(first, "one RACE of THE DOUBLE is not OFFICIAL", y -> y.dividend(DOUBLE, 1, 8, 0), STATE);
    }

    private static void odds() {
        Edge.of(17, "a having POSITION 1, b 2, c 3, no others any (c 0: two alone)");
        Edge.asked("WIN: 72 by 2", y -> y.odds(WIN, 1, 2, 3), 30);
        Edge.asked("WIN: 72 by 6", y -> y.odds(WIN, 2, 1, 3), 10);
        Edge.asked("WIN, c 0", y -> y.odds(WIN, 2, 1, 0), 10);
        Edge.asked("WIN without UNITS", y -> y.odds(WIN, 3, 1, 2), 0);
        Edge.asked("PLACE with four that are not OUT is VOID", y -> y.odds(PLACE, 2, 1, 3), 0);
        Edge.asked("ORDER: 81 and 36 by 9", y -> y.odds(ORDER, 1, 2, 3), 10);
        Edge.asked("ORDER, in another order", y -> y.odds(ORDER, 2, 1, 3), 0);
        ToteHouse back = Days.ofOneRace(3, 0, 10);
        back.sell(0, 3, 3, 2, 1, 1);
        due("ORDER, RUNNER 1 third", back.odds(3, 3, 2, 1), 10);
        Edge.asked("ORDER, c 0: no ROW of three FITS", y -> y.odds(ORDER, 1, 2, 0), 0);
        Edge.asked("OFF, 1 and 2 have POSITIONS, which do not count: 27 by 1", y -> y.odds(8, 3, 2, 1), 20);
        ToteHouse x = Days.ofOneRace(8, 0, 10);
        for (int i = 1; i <= 4; i++) {
            x.sell(0, 1, i, 0, 0, 1);
            x.sell(0, 2, 1, i + 1, 0, 1);
        }
        due("PLACE of eight, c 3: 10 and 10 by 3", x.odds(1, 1, 2, 3), 10);
        due("PLACE of eight, c 0: 10 and 20 by 2", x.odds(1, 1, 2, 0), 20);
        due("PLACE of eight, c without UNITS", x.odds(1, 1, 2, 8), 20);
        due("PAIR, c 0", x.odds(2, 1, 2, 0), 40);
        due("PAIR, the greater first", x.odds(2, 2, 1, 3), 40);
        Edge.of(17, "nothing is changed");
        Edge.asked("not SETTLED behind it", y -> y.odds(PAIR, 1, 2, 3), 0);
        due("as often as one likes", x.odds(1, 1, 2, 0), 20);
    }

    private static void oddsRefusals() {
        Edge.of(17, "UNKNOWN: also THE DOUBLE");
        for (int pool : NO_POOLS) {
            Edge.refused("pool " + pool, y -> y.odds(pool, 1, 2, 3), UNKNOWN);
        }
        Edge.refused("THE DOUBLE", y -> y.odds(DOUBLE, 1, 2, 0), UNKNOWN);
        Edge.refused("THE DOUBLE, no RUNNERS", y -> y.odds(DOUBLE, 0, 0, 0), UNKNOWN);
        Edge.of(17, "OUTSIDE: a, b, c are to be RUNNERS (c may be 0)");
        int[][] lines = {{0, 1, 2}, {6, 1, 2}, {-1, 1, 2}, {1, 0, 2}, {1, 6, 2}, {1, -1, 2}, {1, 2, 6}, {1, 2, -1},
            {1, 0, 0}, {LEAST, 1, 2}, {1, GREATEST, 2}, {1, 2, LEAST}, {1, 1, 6}, {6, 6, 6}, {5, 0, 0}};
        for (int pool = WIN; pool <= ORDER; pool++) {
            for (int[] line : lines) {
                int told = pool;
                Edge.refused("pool " + pool + ": " + line[0] + ", " + line[1] + ", " + line[2],
                    y -> y.odds(told, line[0], line[1], line[2]), OUTSIDE);
            }
        }
        Edge.of(17, "(c may be 0); SAME; GONE");
        Edge.refused("a is b", y -> y.odds(WIN, 1, 1, 0), SAME);
        Edge.refused("a is c", y -> y.odds(WIN, 1, 2, 1), SAME);
        Edge.refused("b is c", y -> y.odds(PAIR, 1, 2, 2), SAME);
        Edge.refused("one that is OUT, twice", y -> y.odds(WIN, 5, 5, 0), SAME);
        Edge.of(17, "SAME; GONE");
        Edge.refused("a is OUT", y -> y.odds(PAIR, 5, 1, 0), GONE);
        Edge.refused("b is OUT, of WIN", y -> y.odds(WIN, 1, 5, 0), GONE);
        Edge.refused("c is OUT, of WIN", y -> y.odds(WIN, 1, 2, 5), GONE);
        Edge.of(17, "STATE: the RACE is OFFICIAL");
        Edge.refused("OFFICIAL", y -> y.odds(0, 1, 2, 3), STATE);
        Edge.refused("OUTSIDE ahead of it", y -> y.odds(0, 1, 2, 7), OUTSIDE);
        Edge.refused("SAME ahead of it", y -> y.odds(0, 1, 1, 3), SAME);
        Supplier<ToteHouse> over = Days.after(Days::mixed, x -> Days.finish(x, 1, 1, 2, 3));
        Edge.refused(over, "GONE ahead of it", y -> y.odds(WIN, 1, 2, 5), GONE);
    }

    private static void book() {
        Edge.of(18, "0 STAKES of all TICKETS that were sold, 1 of those CANCELLED, 2 of those REFUNDED");
        int[][] want = {{0, 180, 0, 0, 18, 0, 0, 32, 0, 130, 100, 1}, {3, 40, 0, 0, 4, 0, 36, 0, 0, 0, 0, 1},
            {1, 0, 0, 0, 0, 0, 0, 0, 0, 0, 0, 1}};
        Edge.asked("120 were sold", y -> y.book(WIN, 0), 120);
        Edge.asked("20 CANCELLED", y -> y.book(WIN, 1), 20);
        Edge.asked("20 REFUNDED", y -> y.book(WIN, 2), 20);
        Edge.asked("none REFUNDED that are for the SUBSTITUTE", y -> y.book(DOUBLE, 2), 0);
        Edge.of(18, "8 what is DUE to all that were LIVE as it was SETTLED, 9 what was PAID");
        for (int[] pool : want) {
            for (int what = 0; what <= 10; what++) {
                int asked = what;
                Edge.asked("pool " + pool[0] + ", " + what, y -> y.book(pool[0], asked), pool[1 + what]);
            }
        }
        Edge.of(18, "10 1 if it is SETTLED, else 0");
        Edge.asked("SELLING", y -> y.book(WIN, 10), 0);
        Edge.asked("OFF", y -> y.book(8, 10), 0);
        Edge.of(18, "3, 5 to 8: 0 before");
        for (int what : new int[] {3, 5, 6, 7, 8}) {
            Edge.asked("pool 7, with what was CARRIED IN, " + what, y -> y.book(ORDER, what), 0);
            Edge.asked("pool 4, " + what, y -> y.book(WIN, what), 0);
        }
        Edge.of(18, "4 CARRIED IN");
        Edge.asked("told before, too", y -> y.book(ORDER, 4), 36);
    }

    private static void bookRefusals() {
        Edge.of(18, "UNKNOWN");
        for (int pool : NO_POOLS) {
            Edge.refused("pool " + pool, y -> y.book(pool, 0), UNKNOWN);
        }
        Edge.refused(Days::bare, "no DOUBLE", y -> y.book(DOUBLE, 0), UNKNOWN);
        Edge.of(18, "OUTSIDE");
        for (int what : new int[] {-1, 11, LEAST, GREATEST}) {
            Edge.refused("what " + what, y -> y.book(WIN, what), OUTSIDE);
        }
        Edge.of(18, "UNKNOWN; OUTSIDE");
        Edge.refused("no POOL, what 11", y -> y.book(49, 11), UNKNOWN);
    }

    private static void restAndUnclaimed() {
        Edge.of(19, "THE REST");
        ToteHouse x = Days.mixed();
        due("what was CARRIED IN elsewhere is none of it", x.rest(), 0);
        Days.finish(x, 2, 1, 2, 3);
        Days.finish(x, 1, 3, 2, 1);
        due("81 and 36, of the last ORDER", x.rest(), 117);
        Edge.of(20, "What is DUE to LIVE TICKETS of SETTLED POOLS, together");
        ToteHouse y = new ToteHouse();
        due("no TICKETS", y.unclaimed(), 0);
        ToteHouse z = Days.mixed();
        due("less what was PAID", z.unclaimed(), 30);
        z.pay(2);
        due("all was PAID", z.unclaimed(), 0);
        ToteHouse first = Days.ofOneRace(3, 0, 10);
        first.sell(0, 0, 1, 0, 0, 1);
        Days.run(first, 0, 1, 2, 3);
        due("TICKET 0, its POOL not SETTLED", first.unclaimed(), 0);
        first.official(0);
        due("TICKET 0, its POOL SETTLED", first.unclaimed(), 10);
    }

    private static void worst() {
        Edge.of(21, "the first one for which most would be DUE by all POOLS of the RACE together");
        due("WIN and ORDER", Days.mixed().worst(1), 10203);
        due("no POOL: the first of all", Days.mixed().worst(3), 10203);
        ToteHouse x = Days.ofOneRace(12, 0, 10);
        x.sell(0, 3, 12, 11, 10, 1);
        due("the last of all", x.worst(0), 121110);
        x.sell(0, 3, 12, 10, 11, 1);
        due("the first of two with as much", x.worst(0), 121011);
        x.sell(0, 3, 12, 1, 11, 1);
        due("RUNNER 1 second", x.worst(0), 120111);
        ToteHouse third = Days.ofOneRace(12, 0, 10);
        third.sell(0, 3, 12, 11, 1, 1);
        due("RUNNER 1 third", third.worst(0), 121101);
        due("OFF: 20 for 1 and for 3", Days.mixed().worst(2), 10203);
        Edge.of(21, "Of all ROWS of three RUNNERS that are not OUT (all different; of two, if there are but two)");
        ToteHouse w = Days.ofOneRace(4, 0, 10);
        w.sell(0, 0, 4, 0, 0, 1);
        w.scratch(0, 2);
        due("three are left", w.worst(0), 40103);
        w.scratch(0, 1);
        due("two are left", w.worst(0), 40300);
        due("10 of WIN", w.worstDue(), 10);
        ToteHouse v = new ToteHouse();
        v.race(2);
        due("two from the first, no POOL", v.worst(0), 10200);
    }

    private static void worstRefusals() {
        Edge.of(21, "UNKNOWN");
        for (int race : new int[] {-1, 4, 12, LEAST, GREATEST}) {
            Edge.refused("race " + race, y -> y.worst(race), UNKNOWN);
        }
        Edge.of(21, "STATE: it is OFFICIAL");
        Edge.refused("OFFICIAL", y -> y.worst(0), STATE);
        Edge.of(21, "GONE: fewer than two RUNNERS are not OUT");
        Edge.refused(() -> lonely(1), "one", y -> y.worst(0), GONE);
        Edge.refused(() -> lonely(0), "none", y -> y.worst(0), GONE);
        Edge.of(21, "STATE: it is OFFICIAL; GONE: fewer than two RUNNERS are not OUT");
        Supplier<ToteHouse> over = Days.after(() -> lonely(1), x -> Days.finish(x, 0, 1));
        Edge.refused(over, "one, and OFFICIAL", y -> y.worst(0), STATE);
    }

    /** A RACE of three of which so many are left; worst() was asked ahead of it. */
    private static ToteHouse lonely(int left) {
        ToteHouse x = Days.ofOneRace(3, 0, 10);
        x.sell(0, 0, 1, 0, 0, 1);
        x.worst(0);
        for (int runner = 3; runner > left; runner--) {
            x.scratch(0, runner);
        }
        return x;
    }

    private static void worstDue() {
        Edge.of(22, "(0 before)");
        due("before", new ToteHouse().worstDue(), 0);
        ToteHouse refused = new ToteHouse();
        refused.worst(0);
        due("one that was refused", refused.worstDue(), 0);
        Edge.of(22, "of the latest worst() that was not refused");
        ToteHouse x = Days.mixed();
        due("of RACE 1: 60 of WIN, 90 of ORDER", x.worstDue(), 150);
        x.worst(0);
        x.worst(4);
        due("OFFICIAL, UNKNOWN", x.worstDue(), 150);
        x.worst(3);
        due("of RACE 3, nothing", x.worstDue(), 0);
    }

    private static void premium() {
        Edge.of(23, "that times the UNITS of its TICKETS (of any state) by UNITS of all, cut");
        // 22 are DEDUCTED; of 68 UNITS these are 45, 5, 4, 1, 6, 7
        int[] want = {14, 1, 1, 0, 1, 2};
        for (int window = 0; window < 6; window++) {
            int told = window;
            Edge.asked("window " + window, y -> y.premium(told), want[window]);
        }
        ToteHouse twin = Days.ofSettledTwin();
        due("DEDUCTED by THE DOUBLE alone", twin.premium(0), 5);
        due("of another WINDOW", twin.premium(1), 0);
        Edge.of(23, "UNKNOWN");
        for (int window : NO_WINDOWS) {
            Edge.refused("window " + window, y -> y.premium(window), UNKNOWN);
        }
        Edge.of(23, "ZERO: no TICKET was sold");
        Edge.refused(ToteHouse::new, "none", y -> y.premium(0), -16);
        Edge.refused(Days::bare, "none, WINDOW 5", y -> y.premium(5), -16);
        ToteHouse x = Days.ofOneRace(3, 500, 10);
        x.sell(0, 0, 1, 0, 0, 1);
        x.cancel(0);
        due("one that is CANCELLED was sold", x.premium(0), 0);
        Edge.of(23, "UNKNOWN; ZERO");
        Edge.refused(ToteHouse::new, "no WINDOW, none", y -> y.premium(6), UNKNOWN);
    }
}
