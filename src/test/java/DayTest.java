/** Promises 1 to 10: a new object, and the day. */
public final class DayTest {
    private static final int UNKNOWN = ToteHouse.UNKNOWN, OUTSIDE = ToteHouse.OUTSIDE, SAME = ToteHouse.SAME,
        GONE = ToteHouse.GONE, STATE = ToteHouse.STATE, FULL = ToteHouse.FULL;

    public static void main(String[] args) {
        newObject();
        race();
        pool();
        twin();
        substitute();
        scratchRefunds();
        scratchAndTheSubstitute();
        scratchRefusals();
        off();
        place();
        officialRefusals();
        officialWithFewRunners();
        officialSettlesTheDoubleBehind();
        raceAt();
        Expect.end();
    }

    private static void due(String call, long got, long want) {
        Expect.due(call, got, want);
    }

    private static void newObject() {
        ToteHouse x = new ToteHouse();
        for (int what = 0; what <= 5; what++) {
            due("1: new, count(" + what + ")", x.count(what), 0);
        }
        for (int what = 11; what <= 16; what++) {
            due("1: new, count(" + what + ")", x.count(what), 0);
        }
        due("1: new, rest()", x.rest(), 0);
        due("1: new, came()", x.came(), 0);
        due("1: new, finding()", x.finding(), 0);
        due("1: new, worstDue()", x.worstDue(), 0);
        due("1: new, unclaimed()", x.unclaimed(), 0);
        due("1: new, digest()", x.digest(), 17 * 31);
        due("1: new, raceAt(0, 0)", x.raceAt(0, 0), UNKNOWN);
        due("1: new, book(0, 0)", x.book(0, 0), UNKNOWN);
        due("1: new, book(48, 0)", x.book(48, 0), UNKNOWN);
        due("1: new, ticket(0, 0)", x.ticket(0, 0), UNKNOWN);
        for (int window = 0; window < 6; window++) {
            due("1: new, lose(" + window + ")", x.lose(window), -11);
        }
        for (int s = 0; s < 4; s++) {
            due("1: new, held(" + s + ", 0)", x.held(s, 0), -11);
        }
    }

    private static void race() {
        ToteHouse x = new ToteHouse();
        due("2: race(1)", x.race(1), OUTSIDE);
        due("2: race(13)", x.race(13), OUTSIDE);
        due("2: race(0)", x.race(0), OUTSIDE);
        due("2: race(least)", x.race(Integer.MIN_VALUE), OUTSIDE);
        due("2: race(greatest)", x.race(Integer.MAX_VALUE), OUTSIDE);
        due("2: count(0)", x.count(0), 0);
        due("2: race(2)", x.race(2), 0);
        due("2: race(12)", x.race(12), 1);
        due("2: SELLING", x.raceAt(1, 0), 0);
        due("2: RUNNERS", x.raceAt(1, 1), 12);
        for (int r = 2; r < 12; r++) {
            due("2: race " + r, x.race(5), r);
        }
        due("2: a thirteenth", x.race(5), FULL);
        due("2: OUTSIDE ahead of FULL", x.race(1), OUTSIDE);
        due("2: count(0) of twelve", x.count(0), 12);
        due("2: race 11", x.raceAt(11, 1), 5);
        due("2: no race 12", x.raceAt(12, 1), UNKNOWN);
    }

    private static void pool() {
        ToteHouse x = new ToteHouse();
        due("3: no race", x.pool(0, 0, 0, 10), UNKNOWN);
        x.race(4);
        x.race(4);
        due("3: race -1", x.pool(-1, 0, 0, 10), UNKNOWN);
        due("3: race 2", x.pool(2, 0, 0, 10), UNKNOWN);
        due("3: UNKNOWN ahead of OUTSIDE", x.pool(2, 9, 0, 10), UNKNOWN);
        due("3: kind -1", x.pool(1, -1, 0, 10), OUTSIDE);
        due("3: kind 4", x.pool(1, 4, 0, 10), OUTSIDE);
        due("3: deduction -1", x.pool(1, 0, -1, 10), OUTSIDE);
        due("3: deduction 501", x.pool(1, 0, 501, 10), OUTSIDE);
        due("3: unit 0", x.pool(1, 0, 0, 0), OUTSIDE);
        due("3: unit 15, no whole tens", x.pool(1, 0, 0, 15), OUTSIDE);
        due("3: unit 1010", x.pool(1, 0, 0, 1010), OUTSIDE);
        due("3: unit -10", x.pool(1, 0, 0, -10), OUTSIDE);
        due("3: none yet", x.count(1), 0);
        for (int kind = 0; kind < 4; kind++) {
            due("3: kind " + kind, x.pool(1, kind, 500, 1000), 4 + kind);
        }
        due("3: race 0", x.pool(0, 0, 0, 10), 0);
        due("3: count(1)", x.count(1), 5);
        due("3: it is there", x.pool(1, 2, 0, 10), SAME);
        due("3: OUTSIDE ahead of SAME", x.pool(1, 2, 501, 10), OUTSIDE);
        x.off(1);
        x.off(0);
        due("3: SAME ahead of STATE", x.pool(1, 2, 0, 10), SAME);
        due("3: not SELLING", x.pool(0, 1, 0, 10), STATE);
        due("3: count(1) as before", x.count(1), 5);
    }

    private static void twin() {
        ToteHouse x = new ToteHouse();
        x.race(4);
        due("4: one race alone", x.twin(0, 1, 0, 10), UNKNOWN);
        due("4: UNKNOWN first", x.twin(1, 0, 900, 10), UNKNOWN);
        x.race(3);
        x.race(2);
        due("4: -1", x.twin(-1, 1, 0, 10), UNKNOWN);
        due("4: the same race", x.twin(1, 1, 0, 10), OUTSIDE);
        due("4: first above second", x.twin(2, 1, 0, 10), OUTSIDE);
        due("4: deduction 501", x.twin(0, 1, 501, 10), OUTSIDE);
        due("4: deduction -1", x.twin(0, 1, -1, 10), OUTSIDE);
        due("4: unit 5", x.twin(0, 1, 0, 5), OUTSIDE);
        due("4: unit 11", x.twin(0, 1, 0, 11), OUTSIDE);
        x.off(0);
        due("4: FIRST is OFF", x.twin(0, 1, 0, 10), STATE);
        due("4: SECOND is OFF", twinWithSecondOff(), STATE);
        due("4: twin", x.twin(1, 2, 0, 10), 48);
        due("4: count(1)", x.count(1), 1);
        due("4: it is there", x.twin(1, 2, 0, 10), SAME);
        due("4: SAME ahead of STATE", x.twin(0, 2, 0, 10), SAME);
        due("4: OUTSIDE ahead of SAME", x.twin(2, 1, 0, 10), OUTSIDE);
        due("4: of the FIRST RACE a 3", x.sell(0, 48, 3, 2, 0, 1), 0);
        due("4: of the SECOND RACE no 3", x.sell(0, 48, 3, 3, 0, 1), OUTSIDE);
    }

    private static int twinWithSecondOff() {
        ToteHouse x = new ToteHouse();
        x.race(3);
        x.race(3);
        x.off(1);
        return x.twin(0, 1, 0, 10);
    }

    private static void substitute() {
        ToteHouse x = new ToteHouse();
        due("5: no race", x.substitute(0, 1), UNKNOWN);
        x.race(3);
        due("5: runner 0", x.substitute(0, 0), OUTSIDE);
        due("5: runner 4", x.substitute(0, 4), OUTSIDE);
        due("5: none before", x.substitute(0, 2), 0);
        due("5: 2 before", x.substitute(0, 3), 2);
        due("5: raceAt", x.raceAt(0, 3), 3);
        x.scratch(0, 1);
        due("5: 1 is OUT", x.substitute(0, 1), GONE);
        x.scratch(0, 3);
        due("5: it stays the SUBSTITUTE when it is OUT", x.raceAt(0, 3), 3);
        x.off(0);
        due("5: GONE ahead of STATE", x.substitute(0, 1), GONE);
        due("5: OFF", x.substitute(0, 2), STATE);
        due("5: as it was", x.raceAt(0, 3), 3);
    }

    private static void scratchRefunds() {
        ToteHouse x = Days.ofOneRace(5, 0, 10);
        x.race(5);
        x.pool(1, 0, 0, 10);
        x.sell(0, 0, 2, 0, 0, 1);
        x.sell(0, 1, 2, 0, 0, 2);
        x.sell(0, 2, 5, 2, 0, 3);
        x.sell(0, 3, 1, 3, 2, 4);
        x.sell(0, 3, 2, 3, 1, 5);
        x.sell(0, 3, 3, 2, 1, 6);
        x.sell(0, 0, 1, 0, 0, 7);
        x.sell(0, 4, 2, 0, 0, 8);
        int cancelled = x.sell(0, 0, 2, 0, 0, 9);
        x.cancel(cancelled);
        due("6: six TICKETS for RUNNER 2 of RACE 0", x.scratch(0, 2), 6);
        for (int t = 0; t < 6; t++) {
            due("6: REFUNDED " + t, x.ticket(t, 5), 2);
        }
        due("6: another RUNNER", x.ticket(6, 5), 0);
        due("6: another RACE", x.ticket(7, 5), 0);
        due("6: CANCELLED stays so", x.ticket(cancelled, 5), 1);
        due("6: WIN gave back 10", x.book(0, 2), 10);
        due("6: ORDER gave back 150", x.book(3, 2), 150);
        due("6: no LIVE UNITS", x.units(3, 3, 2, 1), 0);
        due("6: those not OUT", x.raceAt(0, 2), 4);
        due("6: it is OUT", x.raceAt(0, 12), -1);
        due("6: none left", x.scratch(0, 4), 0);
    }

    private static void scratchAndTheSubstitute() {
        ToteHouse x = new ToteHouse();
        x.race(4);
        x.race(4);
        x.pool(0, 0, 0, 10);
        x.twin(0, 1, 0, 10);
        x.sell(0, 48, 1, 2, 0, 1);
        x.sell(0, 48, 2, 1, 0, 2);
        x.sell(0, 48, 4, 2, 0, 4);
        x.sell(0, 0, 1, 0, 0, 8);
        x.substitute(0, 4);
        due("6: WIN is REFUNDED, THE DOUBLE is for 4", x.scratch(0, 1), 2);
        due("6: WIN's state", x.ticket(3, 5), 2);
        due("6: LIVE", x.ticket(0, 5), 0);
        due("6: a", x.ticket(0, 1), 4);
        due("6: b", x.ticket(0, 2), 2);
        due("6: b of the other one is no RUNNER of this RACE", x.ticket(1, 5), 0);
        due("6: units of 1, 2", x.units(48, 1, 2, 0), 0);
        due("6: units of 4, 2", x.units(48, 4, 2, 0), 5);
        due("6: no SUBSTITUTE in the SECOND", x.scratch(1, 1), 1);
        due("6: so it is REFUNDED", x.ticket(1, 5), 2);
        x.substitute(1, 3);
        due("6: b is for 3", x.scratch(1, 2), 2);
        due("6: now 3", x.ticket(0, 2), 3);
        due("6: a as it was", x.ticket(0, 1), 4);
        due("6: units of 4, 3", x.units(48, 4, 3, 0), 5);
        due("6: the SUBSTITUTE itself", x.scratch(0, 4), 2);
        due("6: REFUNDED, not for itself", x.ticket(0, 5), 2);
        due("6: THE DOUBLE gave back all", x.book(48, 2), 70);
        x.sell(0, 48, 2, 3, 0, 1);
        due("6: the SUBSTITUTE is OUT already", x.scratch(0, 2), 1);
        due("6: so it is REFUNDED, too", x.ticket(4, 5), 2);
    }

    private static void scratchRefusals() {
        ToteHouse x = Days.ofOneRace(3, 0, 10);
        due("6: no race", x.scratch(1, 1), UNKNOWN);
        due("6: runner 0", x.scratch(0, 0), OUTSIDE);
        due("6: runner 4", x.scratch(0, 4), OUTSIDE);
        x.scratch(0, 1);
        due("6: twice", x.scratch(0, 1), GONE);
        due("6: those not OUT", x.raceAt(0, 2), 2);
        x.off(0);
        due("6: GONE ahead of STATE", x.scratch(0, 1), GONE);
        due("6: OFF", x.scratch(0, 2), STATE);
    }

    private static void off() {
        ToteHouse x = Days.ofOneRace(5, 0, 10);
        due("7: no race", x.off(1), UNKNOWN);
        due("7: race -1", x.off(-1), UNKNOWN);
        x.scratch(0, 3);
        due("7: those not OUT", x.off(0), 4);
        due("7: its state", x.raceAt(0, 0), 1);
        due("7: twice", x.off(0), STATE);
        Days.run(x, 0, 1, 2, 0, 3, 4);
        x.official(0);
        due("7: OFFICIAL", x.off(0), STATE);
    }

    private static void place() {
        ToteHouse x = Days.ofOneRace(4, 0, 10);
        x.scratch(0, 4);
        due("8: no race", x.place(1, 1, 1), UNKNOWN);
        due("8: UNKNOWN ahead of OUTSIDE", x.place(1, 1, 99), UNKNOWN);
        due("8: runner 0", x.place(0, 0, 1), OUTSIDE);
        due("8: runner 5", x.place(0, 5, 1), OUTSIDE);
        due("8: position 13", x.place(0, 1, 13), OUTSIDE);
        due("8: position -1", x.place(0, 1, -1), OUTSIDE);
        due("8: OUTSIDE ahead of GONE", x.place(0, 4, 13), OUTSIDE);
        due("8: GONE ahead of STATE", x.place(0, 4, 1), GONE);
        due("8: SELLING", x.place(0, 1, 1), STATE);
        x.off(0);
        due("8: OUT", x.place(0, 4, 1), GONE);
        due("8: none before", x.place(0, 1, 12), 0);
        due("8: 12 before", x.place(0, 1, 3), 12);
        due("8: taken away", x.place(0, 1, 0), 3);
        due("8: none", x.raceAt(0, 11), 0);
        due("8: several may have one", x.place(0, 1, 1) + x.place(0, 2, 1), 0);
        x.place(0, 3, 3);
        x.official(0);
        due("8: OFFICIAL", x.place(0, 1, 2), STATE);
        due("8: as it was", x.raceAt(0, 11), 1);
    }

    private static void officialRefusals() {
        ToteHouse x = Days.ofOneRace(5, 0, 10);
        due("9: no race", x.official(1), UNKNOWN);
        due("9: SELLING", x.official(0), STATE);
        Days.run(x, 0, 1, 2);
        due("9: two of five have one", x.official(0), STATE);
        x.place(0, 3, 2);
        x.place(0, 4, 3);
        due("9: 3 behind two seconds", x.official(0), STATE);
        x.place(0, 4, 4);
        x.place(0, 1, 0);
        due("9: no first", x.official(0), STATE);
        x.place(0, 1, 1);
        x.place(0, 5, 6);
        due("9: a gap", x.official(0), STATE);
        x.place(0, 5, 0);
        x.place(0, 1, 9);
        x.place(0, 2, 1);
        x.place(0, 4, 3);
        due("9: a gap ahead of the last one, the first by number", x.official(0), STATE);
        x.place(0, 1, 1);
        x.place(0, 2, 2);
        x.place(0, 4, 4);
        due("9: OFF still", x.raceAt(0, 0), 1);
        due("9: not SETTLED", x.book(0, 10), 0);
        x.place(0, 5, 0);
        due("9: four POOLS", x.official(0), 4);
        due("9: its state", x.raceAt(0, 0), 2);
        due("9: SETTLED", x.book(3, 10), 1);
        due("9: twice", x.official(0), STATE);
    }

    private static void officialWithFewRunners() {
        ToteHouse x = Days.ofOneRace(4, 0, 10);
        x.scratch(0, 1);
        x.scratch(0, 2);
        x.off(0);
        x.place(0, 3, 1);
        due("9: one of two that are not OUT", x.official(0), STATE);
        x.place(0, 4, 1);
        due("9: both", x.official(0), 4);
        ToteHouse y = new ToteHouse();
        y.race(2);
        y.scratch(0, 1);
        y.scratch(0, 2);
        y.off(0);
        due("9: none to have one, no POOLS", y.official(0), 0);
        due("9: OFFICIAL all the same", y.raceAt(0, 0), 2);
    }

    private static void officialSettlesTheDoubleBehind() {
        ToteHouse x = new ToteHouse();
        x.race(3);
        x.race(3);
        x.race(3);
        x.pool(0, 0, 0, 10);
        x.pool(2, 1, 0, 10);
        x.twin(0, 2, 0, 10);
        Days.run(x, 2, 1, 2, 3);
        due("9: the SECOND first: PLACE alone", x.official(2), 1);
        due("9: THE DOUBLE waits", x.book(48, 10), 0);
        Days.run(x, 1, 1, 2, 3);
        due("9: a RACE of none of them", x.official(1), 0);
        Days.run(x, 0, 1, 2, 3);
        due("9: the FIRST: WIN and THE DOUBLE", x.official(0), 2);
        due("9: SETTLED", x.book(48, 10), 1);
        x.race(3);
        Days.run(x, 3, 1, 2, 3);
        due("9: but once", x.official(3), 0);
    }

    private static void raceAt() {
        ToteHouse x = new ToteHouse();
        due("10: no race", x.raceAt(0, 0), UNKNOWN);
        x.race(4);
        due("10: race 1", x.raceAt(1, 0), UNKNOWN);
        due("10: UNKNOWN ahead of OUTSIDE", x.raceAt(1, 99), UNKNOWN);
        due("10: 5", x.raceAt(0, 5), OUTSIDE);
        due("10: -1", x.raceAt(0, -1), OUTSIDE);
        due("10: 10", x.raceAt(0, 10), OUTSIDE);
        due("10: 15, of four", x.raceAt(0, 15), OUTSIDE);
        due("10: the least", x.raceAt(0, Integer.MIN_VALUE), OUTSIDE);
        due("10: the least and 11", x.raceAt(0, Integer.MIN_VALUE + 11), OUTSIDE);
        due("10: state", x.raceAt(0, 0), 0);
        due("10: RUNNERS", x.raceAt(0, 1), 4);
        due("10: not OUT", x.raceAt(0, 2), 4);
        due("10: SUBSTITUTE", x.raceAt(0, 3), 0);
        due("10: no ORDER", x.raceAt(0, 4), 0);
        x.scratch(0, 2);
        x.off(0);
        x.place(0, 4, 7);
        due("10: OUT", x.raceAt(0, 12), -1);
        due("10: none", x.raceAt(0, 11), 0);
        due("10: a POSITION", x.raceAt(0, 14), 7);
        due("10: RUNNERS as before", x.raceAt(0, 1), 4);
        due("10: one less", x.raceAt(0, 2), 3);
        due("10: OFF", x.raceAt(0, 0), 1);
    }
}
