/** Boundary cases of 3 MONEY: what is deducted, carried, shared, and left. */
final class MoneyEdges {
    private static final int WIN = 0, PLACE = 1, PAIR = 2, ORDER = 3, DOUBLE = 48;
    /** Entries of the book. */
    private static final int REFUNDED = 2, DEDUCTED = 3, CARRIED_IN = 4, CARRIED_OUT = 5, BREAKAGE = 6, COST = 7, DUE = 8,
        SETTLED = 10;

    private MoneyEdges() {
    }

    static void all() {
        settled();
        gross();
        deducted();
        net();
        takers();
        noTakers();
        orderWithoutTakers();
        orderVoid();
        carriedOut();
        carriedOutOfTheLast();
        shares();
        dividends();
        placeBelow();
        placeAbove();
        breakage();
        dueOfATicket();
    }

    private static void due(String edge, long got, long want) {
        Edge.due(edge, got, want);
    }

    private static void settled() {
        Edge.of("Terms", "A RACE's POOLS are SETTLED by KIND when it becomes OFFICIAL, THE DOUBLE (behind them) when both");
        ToteHouse x = Days.ofOneRace(3, 0, 10);
        Days.addRace(x, 3, 0, 10);
        x.twin(0, 1, 0, 10);
        Days.run(x, 1, 1, 2, 3);
        due("OFF: not yet", x.book(4, SETTLED), 0);
        x.official(1);
        for (int kind = 0; kind < 4; kind++) {
            due("OFFICIAL: KIND " + kind, x.book(4 + kind, SETTLED), 1);
            due("the other RACE: KIND " + kind, x.book(kind, SETTLED), 0);
        }
        due("THE DOUBLE waits", x.book(DOUBLE, SETTLED), 0);
        Days.finish(x, 0, 1, 2, 3);
        due("THE DOUBLE", x.book(DOUBLE, SETTLED), 1);
    }

    private static void gross() {
        Edge.of("Terms", "GROSS: the STAKES of the POOL's LIVE TICKETS");
        ToteHouse x = Days.ofOneRace(3, 500, 10);
        x.sell(0, WIN, 1, 0, 0, 2);
        x.sell(0, WIN, 1, 0, 0, 100);
        x.sell(0, WIN, 3, 0, 0, 100);
        x.sell(0, PAIR, 1, 2, 0, 100);
        x.cancel(1);
        x.scratch(0, 3);
        Days.finish(x, 0, 1, 2);
        due("none CANCELLED, REFUNDED, of another POOL", x.book(WIN, DEDUCTED), 10);
        ToteHouse y = Days.ofOneRace(3, 500, 1000);
        for (int t = 0; t < 200; t++) {
            y.sell(0, WIN, 1, 0, 0, 1000);
        }
        Days.finish(y, 0, 1, 2, 3);
        due("the greatest", y.book(WIN, DEDUCTED), 100_000_000);
        due("its DIVIDEND", y.dividend(WIN, 1, 0, 0), 500);
    }

    private static int deductedOf(int deduction, int unit, int units) {
        ToteHouse x = Days.ofOneRace(3, deduction, unit);
        x.sell(0, WIN, 1, 0, 0, units);
        Days.finish(x, 0, 1, 2, 3);
        return x.book(WIN, DEDUCTED);
    }

    private static void deducted() {
        Edge.of("Terms", "DEDUCTED: GROSS times DEDUCTION by 1000, cut");
        due("10 by 0", deductedOf(0, 10, 1), 0);
        due("10 by 99 is 0.99", deductedOf(99, 10, 1), 0);
        due("10 by 100", deductedOf(100, 10, 1), 1);
        due("10 by 199 is 1.99", deductedOf(199, 10, 1), 1);
        due("10 by 500", deductedOf(500, 10, 1), 5);
        due("1 000 000 by 1", deductedOf(1, 1000, 1000), 1000);
        due("1 000 000 by 500", deductedOf(500, 1000, 1000), 500_000);
        due("990 by 1 is 0.99", deductedOf(1, 990, 1), 0);
        due("1000 by 1", deductedOf(1, 1000, 1), 1);
    }

    private static void net() {
        Edge.of("Terms", "NET: GROSS less DEDUCTED, and what was CARRIED IN (ORDER alone)");
        ToteHouse x = Days.ofOneRace(3, 0, 10);
        Days.addRace(x, 3, 500, 10);
        x.sell(0, ORDER, 1, 2, 3, 7);
        x.sell(0, 4 + WIN, 1, 0, 0, 1);
        x.sell(0, 4 + PAIR, 1, 2, 0, 1);
        x.sell(0, 4 + ORDER, 1, 2, 3, 1);
        Days.finish(x, 0, 3, 2, 1);
        Days.finish(x, 1, 1, 2, 3);
        due("ORDER: 5 and 70", x.dividend(4 + ORDER, 1, 2, 3), 70);
        due("ORDER: nothing of what was CARRIED IN is DEDUCTED", x.book(4 + ORDER, DEDUCTED), 5);
        due("ORDER: 5 are left", x.book(4 + ORDER, BREAKAGE), 5);
        due("WIN: 5", x.book(4 + WIN, BREAKAGE), 5);
        due("PAIR: 5", x.book(4 + PAIR, BREAKAGE), 5);
        for (int kind = 0; kind < 3; kind++) {
            due("none CARRIED IN, KIND " + kind, x.book(4 + kind, CARRIED_IN), 0);
        }
    }

    private static void takers() {
        Edge.of("Terms", "What WINS and has LIVE UNITS are the TAKERS");
        ToteHouse x = Days.ofOneRace(3, 0, 10);
        x.sell(0, WIN, 1, 0, 0, 1);
        x.sell(0, WIN, 3, 0, 0, 1);
        x.sell(0, WIN, 2, 0, 0, 1);
        due("two of them", x.odds(WIN, 1, 2, 3), 30);
        x.cancel(2);
        Days.finish(x, 0, 1, 1, 3);
        due("the other first has no LIVE UNITS", x.dividend(WIN, 1, 0, 0), 20);
        due("and no DIVIDEND", x.dividend(WIN, 2, 0, 0), 0);
    }

    private static void noTakers() {
        Edge.of("Terms", "VOID, or no TAKERS: all LIVE TICKETS are REFUNDED, nothing is DEDUCTED");
        ToteHouse x = Days.ofOneRace(5, 500, 10);
        x.race(3);
        x.twin(0, 1, 500, 10);
        int[] pools = {WIN, PLACE, PAIR, DOUBLE};
        x.sell(0, WIN, 5, 0, 0, 1);
        x.sell(0, PLACE, 3, 0, 0, 1);
        x.sell(0, PAIR, 2, 3, 0, 1);
        x.sell(0, DOUBLE, 1, 2, 0, 1);
        x.sell(0, WIN, 5, 0, 0, 1);
        x.cancel(4);
        Days.finish(x, 0, 1, 2, 3);
        Days.finish(x, 1, 1, 2, 3);
        for (int i = 0; i < 4; i++) {
            due("pool " + pools[i] + ", REFUNDED", x.book(pools[i], REFUNDED), 10);
            due("pool " + pools[i] + ", DEDUCTED", x.book(pools[i], DEDUCTED), 0);
            due("pool " + pools[i] + ", BREAKAGE", x.book(pools[i], BREAKAGE), 0);
            due("pool " + pools[i] + ", DUE", x.book(pools[i], DUE), 0);
            due("pool " + pools[i] + ", its TICKET", x.ticket(i, 5), 2);
        }
        due("one CANCELLED is none of them", x.ticket(4, 5), 1);
        ToteHouse y = Days.ofOneRace(4, 500, 10);
        y.sell(0, PLACE, 1, 0, 0, 1);
        Days.finish(y, 0, 1, 2, 3);
        due("VOID, its RUNNER first", y.book(PLACE, REFUNDED), 10);
        due("VOID, DEDUCTED", y.book(PLACE, DEDUCTED), 0);
        due("VOID, COST", y.book(PLACE, COST), 0);
        ToteHouse z = Days.ofOneRace(4, 500, 10);
        Days.finish(z, 0, 1, 2, 3);
        due("no TICKETS at all", z.book(WIN, REFUNDED), 0);
        ToteHouse w = Days.ofOneRace(4, 0, 10);
        w.sell(0, WIN, 1, 0, 0, 1);
        w.sell(0, PLACE, 1, 0, 0, 1);
        Days.finish(w, 0, 1, 2, 3);
        due("WIN has a DIVIDEND", w.dividend(WIN, 1, 0, 0), 10);
        due("PLACE, VOID, has none behind it", w.dividend(PLACE, 1, 0, 0), 0);
    }

    private static void orderWithoutTakers() {
        Edge.of("Terms", "an ORDER that is not VOID, without TAKERS: its NET is CARRIED OUT (and its TICKETS get nothing)");
        ToteHouse x = Days.ofOneRace(3, 99, 10);
        x.sell(0, ORDER, 1, 2, 3, 1);
        Days.finish(x, 0, 3, 2, 1);
        due("its NET", x.book(ORDER, CARRIED_OUT), 10);
        due("not REFUNDED", x.book(ORDER, REFUNDED), 0);
        due("LIVE", x.ticket(0, 5), 0);
        due("no BREAKAGE", x.book(ORDER, BREAKAGE), 0);
        due("nothing DUE", x.pay(0), 0);
        ToteHouse y = Days.ofOneRace(3, 500, 10);
        y.sell(0, ORDER, 1, 2, 3, 1);
        Days.finish(y, 0, 3, 2, 1);
        due("less what is DEDUCTED", y.book(ORDER, CARRIED_OUT), 5);
        due("DEDUCTED", y.book(ORDER, DEDUCTED), 5);
        ToteHouse z = Days.ofOneRace(3, 0, 10);
        Days.addRace(z, 3, 500, 10);
        z.sell(0, ORDER, 1, 2, 3, 3);
        Days.finish(z, 0, 3, 2, 1);
        Days.finish(z, 1, 3, 2, 1);
        due("no TICKETS, what was CARRIED IN", z.book(4 + ORDER, CARRIED_OUT), 30);
        due("nothing DEDUCTED of it", z.book(4 + ORDER, DEDUCTED), 0);
        ToteHouse none = Days.ofOneRace(3, 0, 10);
        Days.finish(none, 0, 3, 2, 1);
        due("nothing at all", none.book(ORDER, CARRIED_OUT), 0);
        due("SETTLED", none.book(ORDER, SETTLED), 1);
    }

    private static void orderVoid() {
        Edge.of("Terms", "What was CARRIED IN to a VOID ORDER is CARRIED OUT");
        ToteHouse x = Days.ofOneRace(3, 0, 10);
        Days.addRace(x, 3, 500, 10);
        Days.addRace(x, 3, 500, 10);
        x.sell(0, ORDER, 1, 2, 3, 3);
        x.sell(0, 4 + ORDER, 1, 2, 3, 1);
        Days.finish(x, 0, 3, 2, 1);
        x.scratch(1, 3);
        Days.finish(x, 1, 1, 2);
        due("30", x.book(4 + ORDER, CARRIED_OUT), 30);
        due("CARRIED IN is told still", x.book(4 + ORDER, CARRIED_IN), 30);
        due("its own TICKET was REFUNDED", x.book(4 + ORDER, REFUNDED), 10);
        due("to the next one", x.book(8 + ORDER, CARRIED_IN), 30);
    }

    /** Five RACES of three; ORDERS in all but RACE 2; what RACE 1 CARRIES OUT is 10. */
    private static ToteHouse fiveRaces() {
        ToteHouse x = new ToteHouse();
        for (int race = 0; race < 5; race++) {
            x.race(3);
            if (race != 2) {
                x.pool(race, ORDER, 0, 10);
            }
        }
        x.sell(0, 4 + ORDER, 1, 2, 3, 1);
        return x;
    }

    private static void carriedOut() {
        Edge.of("Terms", "CARRIED OUT goes to the ORDER of the least RACE behind this one that has one and is not OFFICIAL");
        ToteHouse x = fiveRaces();
        Days.finish(x, 1, 3, 2, 1);
        due("past RACE 2 without an ORDER", x.raceAt(3, 4), 10);
        due("not to one ahead", x.raceAt(0, 4), 0);
        due("not to one behind that", x.raceAt(4, 4), 0);
        ToteHouse y = fiveRaces();
        y.off(3);
        Days.finish(y, 1, 3, 2, 1);
        due("to one that is OFF", y.raceAt(3, 4), 10);
        ToteHouse z = fiveRaces();
        Days.finish(z, 3, 3, 2, 1);
        Days.finish(z, 1, 3, 2, 1);
        due("past one that is OFFICIAL", z.raceAt(4, 4), 10);
        due("not to that one", z.raceAt(3, 4), 0);
        z.sell(0, ORDER, 1, 2, 3, 2);
        Days.finish(z, 0, 3, 2, 1);
        due("on top of it", z.raceAt(4, 4), 30);
        ToteHouse w = fiveRaces();
        w.pool(2, ORDER, 0, 10);
        Days.finish(w, 1, 3, 2, 1);
        due("the next RACE, now that it has one", w.raceAt(2, 4), 10);
        ToteHouse late = fiveRaces();
        Days.finish(late, 1, 3, 2, 1);
        late.pool(2, ORDER, 0, 10);
        due("a POOL that is told later gets nothing", late.raceAt(2, 4), 0);
    }

    private static void carriedOutOfTheLast() {
        Edge.of("Terms", "or, without such, to THE REST");
        ToteHouse x = fiveRaces();
        Days.finish(x, 3, 3, 2, 1);
        Days.finish(x, 4, 3, 2, 1);
        due("nothing yet", x.rest(), 0);
        Days.finish(x, 1, 3, 2, 1);
        due("all behind it are OFFICIAL or without one", x.rest(), 10);
        x.sell(0, ORDER, 1, 2, 3, 2);
        Days.finish(x, 0, 3, 2, 1);
        due("on top of it", x.rest(), 30);
        ToteHouse y = new ToteHouse();
        for (int race = 0; race < 12; race++) {
            y.race(3);
        }
        y.pool(0, ORDER, 0, 10);
        y.pool(11, ORDER, 0, 10);
        y.sell(0, 44 + ORDER, 1, 2, 3, 1);
        Days.finish(y, 11, 3, 2, 1);
        due("of the last of twelve RACES", y.rest(), 10);
        due("not to the first one", y.raceAt(0, 4), 0);
    }

    private static void shares() {
        Edge.of("Terms", "WIN, PAIR, ORDER, THE DOUBLE: each TAKER has NET by how many TAKERS there are, cut");
        ToteHouse x = Days.ofOneRace(4, 0, 10);
        for (int runner = 1; runner <= 4; runner++) {
            x.sell(0, WIN, runner, 0, 0, runner == 4 ? 7 : 1);
        }
        Days.finish(x, 0, 1, 1, 1, 4);
        // 100 by three is 33
        due("100 by three", x.dividend(WIN, 3, 0, 0), 30);
        due("what is left", x.book(WIN, BREAKAGE), 10);
        ToteHouse y = Days.ofOneRace(4, 0, 10);
        y.sell(0, WIN, 1, 0, 0, 1);
        y.sell(0, WIN, 2, 0, 0, 9);
        Days.finish(y, 0, 1, 1, 3, 4);
        due("50 for one UNIT", y.dividend(WIN, 1, 0, 0), 50);
        due("50 for nine, less than was staked", y.dividend(WIN, 2, 0, 0), 0);
    }

    /** The DIVIDEND of WIN when so many UNITS of 10 are the TAKER's, and others are lost. */
    private static int dividendOf(int units, int lost, int deduction) {
        ToteHouse x = Days.ofOneRace(3, deduction, 10);
        x.sell(0, WIN, 1, 0, 0, units);
        if (lost > 0) {
            x.sell(0, WIN, 2, 0, 0, lost);
        }
        Days.finish(x, 0, 1, 2, 3);
        return x.dividend(WIN, 1, 0, 0);
    }

    private static void dividends() {
        Edge.of("Terms", "the DIVIDEND of a UNIT is that by the TAKER's UNITS, cut to whole tens");
        due("10", dividendOf(1, 0, 0), 10);
        due("9", dividendOf(1, 0, 100), 0);
        due("19", dividendOf(1, 1, 50), 10);
        due("20", dividendOf(1, 1, 0), 20);
        due("39 by 2", dividendOf(2, 2, 25), 10);
        due("40 by 2", dividendOf(2, 2, 0), 20);
        due("10000 by 1000", dividendOf(1000, 0, 0), 10);
        due("9990 by 1000", dividendOf(1000, 0, 1), 0);
        due("10010 by 1", dividendOf(1, 1000, 0), 10010);
    }

    /** PLACE of five RUNNERS: 1 and 2 WIN, 3 does not. */
    private static ToteHouse place(int deduction, int first, int second, int third) {
        ToteHouse x = Days.ofOneRace(5, deduction, 10);
        int[] units = {first, second, third};
        for (int i = 0; i < 3; i++) {
            if (units[i] > 0) {
                x.sell(0, PLACE, i + 1, 0, 0, units[i]);
            }
        }
        Days.finish(x, 0, 1, 2, 3);
        return x;
    }

    private static void isPlace(String edge, ToteHouse x, int dividend, int cost, int breakage) {
        due(edge + ": DIVIDEND", x.dividend(PLACE, 1, 0, 0), dividend);
        due(edge + ": COST", x.book(PLACE, COST), cost);
        due(edge + ": BREAKAGE", x.book(PLACE, BREAKAGE), breakage);
    }

    private static void placeBelow() {
        Edge.of("Terms", "PLACE: GAIN is NET less the STAKES of the TAKERS");
        isPlace("20 less 10", place(0, 1, 0, 1), 20, 0, 0);
        isPlace("what did not WIN is no TAKER's", place(0, 1, 1, 2), 20, 0, 0);
        Edge.of("Terms", "Below 0: the DIVIDEND is the UNIT, the COST less GAIN");
        isPlace("-1", place(100, 1, 0, 0), 10, 1, 0);
        isPlace("0", place(99, 1, 0, 0), 10, 0, 0);
        isPlace("-5, the most of one UNIT", place(500, 1, 0, 0), 10, 5, 0);
        isPlace("-1 of two TAKERS", place(50, 1, 1, 0), 10, 1, 0);
        isPlace("0, 20 DEDUCTED of 40", place(500, 1, 1, 2), 10, 0, 0);
        ToteHouse x = place(500, 1000, 1000, 0);
        isPlace("-10 000", x, 10, 10_000, 0);
        due("all have their STAKES", x.book(PLACE, DUE), 20_000);
        ToteHouse y = Days.ofOneRace(5, 500, 10);
        y.sell(0, PLACE, 1, 0, 0, 1);
        y.sell(0, PAIR, 1, 2, 0, 1);
        Days.finish(y, 0, 1, 2, 3);
        due("COST of PLACE", y.book(PLACE, COST), 5);
        due("no COST of PAIR behind it", y.book(PAIR, COST), 0);
        due("and all its NET is left", y.book(PAIR, BREAKAGE), 5);
    }

    private static void placeAbove() {
        Edge.of("Terms", "Else each has GAIN by how many TAKERS, cut");
        isPlace("19 by two", place(25, 1, 1, 2), 10, 0, 19);
        isPlace("20 by two", place(0, 1, 1, 2), 20, 0, 0);
        isPlace("30 by two", place(0, 1, 1, 3), 20, 0, 10);
        isPlace("0 by two", place(0, 1, 1, 0), 10, 0, 0);
        Edge.of("Terms", "the DIVIDEND is the UNIT and that by the TAKER's UNITS, cut to whole tens");
        isPlace("9 by 1", place(50, 1, 0, 1), 10, 0, 9);
        isPlace("10 by 1", place(0, 1, 0, 1), 20, 0, 0);
        isPlace("20 by 2", place(0, 2, 0, 2), 20, 0, 0);
        isPlace("19 by 2", place(25, 2, 0, 2), 10, 0, 19);
    }

    private static void breakage() {
        Edge.of("Terms", "BREAKAGE: what of NET (and COST) is left when all UNITS of TAKERS have their DIVIDEND");
        ToteHouse x = Days.ofOneRace(3, 100, 10);
        x.sell(0, WIN, 1, 0, 0, 1);
        Days.finish(x, 0, 1, 2, 3);
        due("all of NET, the DIVIDEND is 0", x.book(WIN, BREAKAGE), 9);
        ToteHouse y = Days.ofOneRace(3, 0, 10);
        y.sell(0, WIN, 1, 0, 0, 1);
        Days.finish(y, 0, 1, 2, 3);
        due("none", y.book(WIN, BREAKAGE), 0);
        due("none where none WIN", y.book(PAIR, BREAKAGE), 0);
        ToteHouse z = Days.ofOneRace(3, 0, 10);
        z.sell(0, WIN, 1, 0, 0, 2);
        z.sell(0, WIN, 1, 0, 0, 1);
        z.sell(0, WIN, 2, 0, 0, 2);
        Days.finish(z, 0, 1, 2, 3);
        due("50 less three times 10", z.book(WIN, BREAKAGE), 20);
        z.pay(0);
        due("the same when one is PAID", z.book(WIN, BREAKAGE), 20);
    }

    private static void dueOfATicket() {
        Edge.of("Terms", "DUE of a TICKET: its UNITS times the DIVIDEND for its RUNNERS (0 if these did not WIN)");
        ToteHouse x = Days.ofOneRace(3, 0, 1000);
        x.sell(0, WIN, 1, 0, 0, 1);
        x.sell(0, WIN, 2, 0, 0, 1000);
        x.sell(0, WIN, 1, 0, 0, 999);
        Days.finish(x, 0, 1, 2, 3);
        due("one UNIT", x.ticket(0, 7), 2000);
        due("999 UNITS", x.ticket(2, 7), 1_998_000);
        due("it did not WIN", x.ticket(1, 7), 0);
        due("both together", x.book(WIN, DUE), 2_000_000);
    }
}
