/** Promises 11 to 23: tickets, and 2 RESULTS and 3 MONEY behind them. */
public final class TicketsTest {
    private static final int UNKNOWN = ToteHouse.UNKNOWN, OUTSIDE = ToteHouse.OUTSIDE, SAME = ToteHouse.SAME,
        GONE = ToteHouse.GONE, STATE = ToteHouse.STATE, FULL = ToteHouse.FULL;
    private static final int WIN = 0, PLACE = 1, PAIR = 2, ORDER = 3, DOUBLE = 48;

    public static void main(String[] args) {
        sell();
        sellRefusals();
        sellUntilFull();
        cancel();
        cancelTheDouble();
        pay();
        ticket();
        units();
        unitsOfTwelveRunners();
        dividend();
        winWithADeadHeat();
        placeByRunners();
        placeAtACost();
        pairWithDeadHeats();
        orderWithDeadHeats();
        orderIsCarried();
        orderIsCarriedPastRaces();
        doubleWithADeadHeat();
        noTakers();
        odds();
        oddsRefusals();
        book();
        unclaimed();
        worst();
        worstOfTwo();
        worstWithCarriedIn();
        premium();
        greatSums();
        Expect.end();
    }

    private static void due(String call, long got, long want) {
        Expect.due(call, got, want);
    }

    private static void sell() {
        ToteHouse x = Days.ofOneRace(4, 0, 20);
        x.race(2);
        x.twin(0, 1, 0, 10);
        due("11: WIN", x.sell(0, WIN, 4, 0, 0, 1), 0);
        due("11: PLACE", x.sell(5, PLACE, 1, 0, 0, 1000), 1);
        due("11: PAIR", x.sell(1, PAIR, 4, 2, 0, 3), 2);
        due("11: ORDER", x.sell(1, ORDER, 4, 1, 3, 3), 3);
        due("11: THE DOUBLE, of one number twice", x.sell(1, DOUBLE, 2, 2, 0, 3), 4);
        due("11: PAIR, the lesser first", x.ticket(2, 1) * 10 + x.ticket(2, 2), 24);
        due("11: ORDER as told", x.ticket(3, 1) * 100 + x.ticket(3, 2) * 10 + x.ticket(3, 3), 413);
        due("11: count(2)", x.count(2), 5);
        due("11: count(3)", x.count(3), 5);
        due("11: STAKES", x.book(PLACE, 0), 20000);
    }

    private static void sellRefusals() {
        ToteHouse x = Days.ofOneRace(4, 0, 10);
        x.race(2);
        x.twin(0, 1, 0, 10);
        due("11: window 6", x.sell(6, WIN, 1, 0, 0, 1), UNKNOWN);
        due("11: window -1", x.sell(-1, WIN, 1, 0, 0, 1), UNKNOWN);
        due("11: pool 4", x.sell(0, 4, 1, 0, 0, 1), UNKNOWN);
        due("11: pool -1", x.sell(0, -1, 1, 0, 0, 1), UNKNOWN);
        due("11: pool 49", x.sell(0, 49, 1, 0, 0, 1), UNKNOWN);
        due("11: UNKNOWN ahead of OUTSIDE", x.sell(0, 4, 1, 0, 0, 0), UNKNOWN);
        due("11: no units", x.sell(0, WIN, 1, 0, 0, 0), OUTSIDE);
        due("11: 1001 units", x.sell(0, WIN, 1, 0, 0, 1001), OUTSIDE);
        due("11: runner 0", x.sell(0, WIN, 0, 0, 0, 1), OUTSIDE);
        due("11: runner 5", x.sell(0, WIN, 5, 0, 0, 1), OUTSIDE);
        due("11: WIN, b", x.sell(0, WIN, 1, 2, 0, 1), OUTSIDE);
        due("11: WIN, c", x.sell(0, WIN, 1, 0, 2, 1), OUTSIDE);
        due("11: PLACE, b", x.sell(0, PLACE, 1, 2, 0, 1), OUTSIDE);
        due("11: PAIR, no b", x.sell(0, PAIR, 1, 0, 0, 1), OUTSIDE);
        due("11: PAIR, c", x.sell(0, PAIR, 1, 2, 3, 1), OUTSIDE);
        due("11: ORDER, no c", x.sell(0, ORDER, 1, 2, 0, 1), OUTSIDE);
        due("11: ORDER, c of 5", x.sell(0, ORDER, 1, 2, 5, 1), OUTSIDE);
        due("11: THE DOUBLE, c", x.sell(0, DOUBLE, 1, 2, 1, 1), OUTSIDE);
        due("11: THE DOUBLE, no 3 in the SECOND", x.sell(0, DOUBLE, 1, 3, 0, 1), OUTSIDE);
        due("11: PAIR of one", x.sell(0, PAIR, 2, 2, 0, 1), SAME);
        due("11: ORDER a is b", x.sell(0, ORDER, 2, 2, 1, 1), SAME);
        due("11: ORDER a is c", x.sell(0, ORDER, 2, 1, 2, 1), SAME);
        due("11: ORDER b is c", x.sell(0, ORDER, 1, 2, 2, 1), SAME);
        x.scratch(0, 2);
        x.scratch(1, 1);
        due("11: SAME ahead of GONE", x.sell(0, PAIR, 2, 2, 0, 1), SAME);
        due("11: a is OUT", x.sell(0, WIN, 2, 0, 0, 1), GONE);
        due("11: b is OUT", x.sell(0, PAIR, 1, 2, 0, 1), GONE);
        due("11: c is OUT", x.sell(0, ORDER, 1, 3, 2, 1), GONE);
        due("11: a of the FIRST is OUT", x.sell(0, DOUBLE, 2, 2, 0, 1), GONE);
        due("11: b of the SECOND is OUT", x.sell(0, DOUBLE, 1, 1, 0, 1), GONE);
        x.off(1);
        due("11: the SECOND is OFF", x.sell(0, DOUBLE, 1, 2, 0, 1), STATE);
        due("11: GONE ahead of STATE", x.sell(0, DOUBLE, 1, 1, 0, 1), GONE);
        due("11: the FIRST sells still", x.sell(0, WIN, 1, 0, 0, 1), 0);
        x.off(0);
        due("11: OFF", x.sell(0, WIN, 1, 0, 0, 1), STATE);
        due("11: one TICKET", x.count(2), 1);
    }

    private static void sellUntilFull() {
        ToteHouse x = Days.ofOneRace(4, 0, 10);
        for (int t = 0; t < 200; t++) {
            due("11: ticket " + t, x.sell(t % 6, WIN, 1 + t % 4, 0, 0, 1), t);
        }
        due("11: one more", x.sell(0, WIN, 1, 0, 0, 1), FULL);
        due("11: OUTSIDE ahead of FULL", x.sell(0, WIN, 5, 0, 0, 1), OUTSIDE);
        due("11: 200", x.count(2), 200);
        due("11: ticket 199", x.ticket(199, 1), 4);
        due("11: no ticket 200", x.ticket(200, 0), UNKNOWN);
        x.off(0);
        due("11: STATE ahead of FULL", x.sell(0, WIN, 1, 0, 0, 1), STATE);
    }

    private static void cancel() {
        ToteHouse x = Days.ofOneRace(4, 0, 30);
        x.sell(0, WIN, 1, 0, 0, 7);
        x.sell(0, WIN, 1, 0, 0, 2);
        x.sell(0, WIN, 2, 0, 0, 2);
        due("12: ticket 3", x.cancel(3), UNKNOWN);
        due("12: ticket -1", x.cancel(-1), UNKNOWN);
        due("12: its STAKE", x.cancel(0), 210);
        due("12: its state", x.ticket(0, 5), 1);
        due("12: units", x.units(WIN, 1, 0, 0), 2);
        due("12: book", x.book(WIN, 1), 210);
        due("12: sold all the same", x.book(WIN, 0), 330);
        due("12: twice", x.cancel(0), STATE);
        x.scratch(0, 2);
        due("12: REFUNDED", x.cancel(2), STATE);
        x.off(0);
        due("12: OFF", x.cancel(1), STATE);
        due("12: LIVE still", x.count(3), 1);
    }

    private static void cancelTheDouble() {
        ToteHouse x = new ToteHouse();
        x.race(3);
        x.race(3);
        x.twin(0, 1, 0, 10);
        x.sell(0, DOUBLE, 1, 1, 0, 1);
        x.sell(0, DOUBLE, 1, 1, 0, 2);
        x.off(1);
        due("12: the SECOND is OFF, the FIRST counts", x.cancel(0), 10);
        x.off(0);
        due("12: the FIRST is OFF", x.cancel(1), STATE);
    }

    private static void pay() {
        ToteHouse x = Days.ofOneRace(4, 100, 100);
        x.sell(0, WIN, 1, 0, 0, 3);
        x.sell(0, WIN, 2, 0, 0, 7);
        x.sell(0, WIN, 1, 0, 0, 1);
        x.cancel(2);
        due("13: ticket 3", x.pay(3), UNKNOWN);
        due("13: not SETTLED", x.pay(0), STATE);
        x.off(0);
        due("13: OFF", x.pay(0), STATE);
        Days.finish(x, 0, 1, 2, 3);
        // 1000 less 100 is 900, by 3 UNITS 300
        due("13: DUE", x.pay(0), 900);
        due("13: PAID", x.ticket(0, 5), 3);
        due("13: twice", x.pay(0), STATE);
        due("13: DUE is 0", x.pay(1), 0);
        due("13: PAID, too", x.ticket(1, 5), 3);
        due("13: CANCELLED", x.pay(2), STATE);
        due("13: book", x.book(WIN, 9), 900);
        due("13: no LIVE UNITS", x.units(WIN, 1, 0, 0), 0);
        due("13: the DIVIDEND stays", x.dividend(WIN, 1, 0, 0), 300);
    }

    private static void ticket() {
        ToteHouse x = Days.ofOneRace(4, 0, 10);
        due("14: none", x.ticket(0, 0), UNKNOWN);
        x.sell(3, ORDER, 4, 1, 2, 6);
        int[] want = {3, 4, 1, 2, 6, 0, 3, 0};
        for (int what = 0; what < 8; what++) {
            due("14: what " + what, x.ticket(0, what), want[what]);
        }
        due("14: 8", x.ticket(0, 8), OUTSIDE);
        due("14: -1", x.ticket(0, -1), OUTSIDE);
        due("14: ticket 1", x.ticket(1, 0), UNKNOWN);
        due("14: ticket -1", x.ticket(-1, 9), UNKNOWN);
        x.sell(0, WIN, 1, 0, 0, 5);
        x.sell(0, WIN, 4, 0, 0, 5);
        x.sell(0, WIN, 4, 0, 0, 1);
        x.sell(0, WIN, 4, 0, 0, 1);
        x.cancel(3);
        x.scratch(0, 3);
        Days.finish(x, 0, 2, 3, 0, 1);
        due("14: a, b, c of WIN", x.ticket(1, 1) * 100 + x.ticket(1, 2) * 10 + x.ticket(1, 3), 100);
        due("14: DUE", x.ticket(2, 7), 5 * 10);
        due("14: DUE of one that did not WIN", x.ticket(1, 7), 0);
        due("14: DUE of one CANCELLED", x.ticket(3, 7), 0);
        x.pay(2);
        due("14: DUE of one PAID", x.ticket(2, 7), 50);
    }

    private static void units() {
        ToteHouse x = Days.ofOneRace(4, 0, 10);
        x.race(2);
        x.twin(0, 1, 0, 10);
        due("15: pool 4", x.units(4, 1, 0, 0), UNKNOWN);
        due("15: runner 5", x.units(WIN, 5, 0, 0), OUTSIDE);
        due("15: WIN, b", x.units(WIN, 1, 1, 0), OUTSIDE);
        due("15: PAIR, c", x.units(PAIR, 1, 2, 3), OUTSIDE);
        due("15: ORDER, no c", x.units(ORDER, 1, 2, 0), OUTSIDE);
        due("15: THE DOUBLE, b 3", x.units(DOUBLE, 1, 3, 0), OUTSIDE);
        due("15: PAIR of one", x.units(PAIR, 1, 1, 0), SAME);
        due("15: ORDER of two", x.units(ORDER, 1, 2, 1), SAME);
        due("15: none", x.units(PAIR, 1, 2, 0), 0);
        x.sell(0, PAIR, 2, 1, 0, 3);
        x.sell(0, PAIR, 1, 2, 0, 4);
        x.sell(0, PAIR, 1, 3, 0, 9);
        x.sell(0, ORDER, 1, 2, 3, 5);
        x.sell(0, DOUBLE, 1, 2, 0, 6);
        due("15: PAIR", x.units(PAIR, 1, 2, 0), 7);
        due("15: PAIR, in the other order", x.units(PAIR, 2, 1, 0), 7);
        due("15: ORDER", x.units(ORDER, 1, 2, 3), 5);
        due("15: ORDER, in another order", x.units(ORDER, 2, 1, 3), 0);
        due("15: THE DOUBLE", x.units(DOUBLE, 1, 2, 0), 6);
        due("15: THE DOUBLE, the other way", x.units(DOUBLE, 2, 1, 0), 0);
        x.scratch(0, 1);
        due("15: of RUNNERS that are OUT", x.units(PAIR, 1, 2, 0), 0);
    }

    /** No two PAIRS, ORDERS, DOUBLES of twelve RUNNERS share their UNITS. */
    private static void unitsOfTwelveRunners() {
        ToteHouse x = Days.ofOneRace(12, 0, 10);
        x.race(12);
        x.twin(0, 1, 0, 10);
        for (int a = 1; a <= 12; a++) {
            for (int b = 1; b <= 12; b++) {
                x.sell(0, DOUBLE, a, b, 0, 12 * a + b);
            }
        }
        for (int a = 1; a <= 12; a++) {
            for (int b = 1; b <= 12; b++) {
                due("15: THE DOUBLE " + a + ", " + b, x.units(DOUBLE, a, b, 0), 12 * a + b);
            }
        }
        for (int t = 0; t < 5; t++) {
            ToteHouse y = Days.ofOneRace(12, 0, 10);
            for (int a = 1; a <= 12; a++) {
                y.sell(0, ORDER, a, a % 12 + 1, (a + 4 + t) % 12 + 1, a);
                y.sell(0, PAIR, a, a % 12 + 1, 0, a);
            }
            int orders = 0;
            int pairs = 0;
            for (int row = 0; row < 12 * 12 * 12; row++) {
                orders += Math.max(0, y.units(ORDER, 1 + row / 144, 1 + row / 12 % 12, 1 + row % 12));
                pairs += row < 144 ? Math.max(0, y.units(PAIR, 1 + row / 12, 1 + row % 12, 0)) : 0;
            }
            due("15: all ORDERS together", orders, 78);
            due("15: all PAIRS together, each by both orders", pairs, 2 * 78);
        }
    }

    private static void dividend() {
        ToteHouse x = Days.ofOneRace(5, 0, 10);
        x.sell(0, WIN, 1, 0, 0, 3);
        x.sell(0, WIN, 2, 0, 0, 4);
        due("16: pool 4", x.dividend(4, 1, 0, 0), UNKNOWN);
        due("16: runner 6", x.dividend(WIN, 6, 0, 0), OUTSIDE);
        due("16: PAIR of one", x.dividend(PAIR, 1, 1, 0), SAME);
        due("16: not SETTLED", x.dividend(WIN, 1, 0, 0), STATE);
        due("16: SAME ahead of STATE", x.dividend(ORDER, 1, 1, 2), SAME);
        x.sell(0, PAIR, 4, 1, 0, 2);
        x.sell(0, ORDER, 1, 4, 2, 1);
        Days.finish(x, 0, 1, 3, 0, 2, 0);
        // 70 by 3 is 23, cut to 20
        due("16: WIN", x.dividend(WIN, 1, 0, 0), 20);
        due("16: it did not WIN", x.dividend(WIN, 2, 0, 0), 0);
        due("16: no LIVE UNITS", x.dividend(PLACE, 1, 0, 0), 0);
        due("16: PAIR", x.dividend(PAIR, 1, 4, 0), 10);
        due("16: PAIR, in the other order", x.dividend(PAIR, 4, 1, 0), 10);
        due("16: ORDER", x.dividend(ORDER, 1, 4, 2), 10);
        due("16: ORDER, in another order", x.dividend(ORDER, 1, 2, 4), 0);
        due("16: BREAKAGE of WIN", x.book(WIN, 6), 10);
    }

    private static void winWithADeadHeat() {
        ToteHouse x = Days.ofOneRace(5, 55, 10);
        x.sell(0, WIN, 1, 0, 0, 13);
        x.sell(0, WIN, 2, 0, 0, 1);
        x.sell(0, WIN, 4, 0, 0, 100);
        Days.finish(x, 0, 1, 1, 1, 4, 0);
        // GROSS 1140, DEDUCTED 62 (62.7 cut), NET 1078; two TAKERS (3 has no UNITS), 539 each
        due("16: DEDUCTED", x.book(WIN, 3), 62);
        due("16: 539 by 13", x.dividend(WIN, 1, 0, 0), 40);
        due("16: 539 by 1", x.dividend(WIN, 2, 0, 0), 530);
        due("16: WINS without UNITS", x.dividend(WIN, 3, 0, 0), 0);
        due("16: the fourth", x.dividend(WIN, 4, 0, 0), 0);
        due("18: DUE", x.book(WIN, 8), 520 + 530);
        due("18: BREAKAGE", x.book(WIN, 6), 1078 - 1050);
    }

    private static void placeByRunners() {
        for (int runners = 4; runners <= 8; runners++) {
            ToteHouse x = Days.ofOneRace(runners, 0, 10);
            for (int i = 1; i <= 4; i++) {
                x.sell(0, PLACE, i, 0, 0, 10);
            }
            Days.finish(x, 0, 1, 2, 3, 4);
            int takers = runners < 5 ? 0 : runners < 8 ? 2 : 3;
            due("16: takers of " + runners, x.book(PLACE, 2), takers == 0 ? 400 : 0);
            for (int i = 1; i <= 4; i++) {
                // GAIN is 400 less 100 a TAKER; by TAKERS, by 10
                int want = i > takers ? 0 : 10 + (400 - 100 * takers) / takers / 10 / 10 * 10;
                due("16: PLACE of " + runners + ", runner " + i, x.dividend(PLACE, i, 0, 0), want);
            }
        }
        ToteHouse y = Days.ofOneRace(8, 0, 10);
        y.sell(0, PLACE, 3, 0, 0, 10);
        y.sell(0, PLACE, 4, 0, 0, 10);
        y.scratch(0, 8);
        Days.finish(y, 0, 1, 2, 3, 4);
        due("16: seven are left of eight, the third does not WIN", y.book(PLACE, 2), 200);
        ToteHouse z = Days.ofOneRace(6, 0, 10);
        for (int i = 1; i <= 4; i++) {
            z.sell(0, PLACE, i, 0, 0, 10);
        }
        Days.finish(z, 0, 1, 2, 2, 2);
        due("16: all with POSITION 2", z.dividend(PLACE, 4, 0, 0), 10);
        ToteHouse w = Days.ofOneRace(6, 0, 10);
        for (int i = 1; i <= 4; i++) {
            w.sell(0, PLACE, i, 0, 0, 10);
        }
        Days.finish(w, 0, 1, 1, 3, 4);
        due("16: behind two firsts there is no second", w.dividend(PLACE, 3, 0, 0), 0);
        due("16: 200 by 2, by 10, and 10", w.dividend(PLACE, 1, 0, 0), 20);
    }

    private static void placeAtACost() {
        ToteHouse x = Days.ofOneRace(6, 500, 20);
        x.sell(0, PLACE, 1, 0, 0, 10);
        x.sell(0, PLACE, 2, 0, 0, 5);
        x.sell(0, PLACE, 3, 0, 0, 3);
        Days.finish(x, 0, 1, 2, 3);
        // GROSS 360, NET 180, STAKES of the TAKERS 300, GAIN -120
        due("16: the UNIT", x.dividend(PLACE, 1, 0, 0), 20);
        due("16: the UNIT of the other", x.dividend(PLACE, 2, 0, 0), 20);
        due("18: COST", x.book(PLACE, 7), 120);
        due("18: BREAKAGE", x.book(PLACE, 6), 0);
        due("18: DUE", x.book(PLACE, 8), 300);
        ToteHouse y = Days.ofOneRace(6, 0, 20);
        y.sell(0, PLACE, 1, 0, 0, 10);
        Days.finish(y, 0, 1, 2, 3);
        due("16: GAIN 0", y.dividend(PLACE, 1, 0, 0), 20);
        due("18: no COST", y.book(PLACE, 7), 0);
        ToteHouse z = Days.ofOneRace(6, 0, 20);
        z.sell(0, PLACE, 1, 0, 0, 3);
        z.sell(0, PLACE, 2, 0, 0, 7);
        z.sell(0, PLACE, 6, 0, 0, 11);
        Days.finish(z, 0, 1, 2, 3);
        // GAIN 220, 110 each: by 3 is 36, by 7 is 15
        due("16: 20 and 30", z.dividend(PLACE, 1, 0, 0), 50);
        due("16: 20 and 10", z.dividend(PLACE, 2, 0, 0), 30);
        due("18: BREAKAGE of GAIN", z.book(PLACE, 6), 220 - 90 - 70);
    }

    private static void pairWithDeadHeats() {
        ToteHouse x = Days.ofOneRace(5, 0, 10);
        for (int a = 1; a <= 5; a++) {
            for (int b = a + 1; b <= 5; b++) {
                x.sell(0, PAIR, a, b, 0, 10);
            }
        }
        Days.finish(x, 0, 1, 2, 2, 4, 0);
        due("16: first and a second", x.dividend(PAIR, 1, 2, 0), 50);
        due("16: first and the other second", x.dividend(PAIR, 3, 1, 0), 50);
        due("16: both seconds", x.dividend(PAIR, 2, 3, 0), 0);
        due("16: first and fourth", x.dividend(PAIR, 1, 4, 0), 0);
        ToteHouse y = Days.ofOneRace(5, 0, 10);
        y.sell(0, PAIR, 1, 2, 0, 10);
        y.sell(0, PAIR, 1, 3, 0, 10);
        y.sell(0, PAIR, 2, 3, 0, 10);
        y.sell(0, PAIR, 3, 4, 0, 30);
        Days.finish(y, 0, 1, 1, 1, 4, 0);
        due("16: three firsts make three PAIRS", y.dividend(PAIR, 2, 3, 0), 20);
        due("16: and no fourth", y.dividend(PAIR, 3, 4, 0), 0);
        ToteHouse z = Days.ofOneRace(5, 0, 10);
        z.sell(0, PAIR, 1, 2, 0, 10);
        z.sell(0, PAIR, 1, 3, 0, 10);
        Days.finish(z, 0, 1, 1, 3, 4, 0);
        due("16: two firsts are one TAKER", z.dividend(PAIR, 1, 2, 0), 20);
        ToteHouse v = Days.ofOneRace(2, 0, 10);
        v.sell(0, PAIR, 1, 2, 0, 10);
        Days.finish(v, 0, 2, 1);
        due("16: two RUNNERS are enough", v.dividend(PAIR, 1, 2, 0), 10);
        due("18: nothing given back", v.book(PAIR, 2), 0);
        ToteHouse w = Days.ofOneRace(3, 100, 10);
        w.sell(0, PAIR, 1, 2, 0, 10);
        w.scratch(0, 1);
        w.scratch(0, 3);
        w.off(0);
        w.place(0, 2, 1);
        w.official(0);
        due("16: one RUNNER is left", w.dividend(PAIR, 1, 2, 0), 0);
        due("18: REFUNDED when it was scratched", w.book(PAIR, 2), 100);
        due("18: nothing DEDUCTED", w.book(PAIR, 3), 0);
    }

    private static void orderWithDeadHeats() {
        ToteHouse x = Days.ofOneRace(5, 0, 10);
        x.sell(0, ORDER, 1, 2, 3, 1);
        x.sell(0, ORDER, 1, 3, 2, 2);
        x.sell(0, ORDER, 2, 1, 3, 4);
        x.sell(0, ORDER, 1, 2, 4, 5);
        Days.finish(x, 0, 1, 2, 2, 4, 0);
        // NET 120, two TAKERS
        due("16: 60 by 1", x.dividend(ORDER, 1, 2, 3), 60);
        due("16: 60 by 2", x.dividend(ORDER, 1, 3, 2), 30);
        due("16: a second ahead of the first", x.dividend(ORDER, 2, 1, 3), 0);
        due("16: a fourth ahead of a second", x.dividend(ORDER, 1, 2, 4), 0);
        ToteHouse y = Days.ofOneRace(5, 0, 10);
        y.sell(0, ORDER, 1, 2, 3, 1);
        y.sell(0, ORDER, 1, 2, 4, 1);
        y.sell(0, ORDER, 2, 1, 4, 1);
        y.sell(0, ORDER, 1, 3, 4, 9);
        Days.finish(y, 0, 1, 2, 3, 3, 0);
        due("16: one third", y.dividend(ORDER, 1, 2, 3), 60);
        ToteHouse z = Days.ofOneRace(3, 0, 10);
        z.sell(0, ORDER, 3, 2, 1, 4);
        z.sell(0, PAIR, 3, 2, 0, 4);
        Days.finish(z, 0, 3, 2, 1);
        due("16: the greatest number first, the least last", z.dividend(ORDER, 3, 2, 1), 10);
        due("16: and its PAIR", z.dividend(PAIR, 3, 2, 0), 10);
        due("16: the other third", y.dividend(ORDER, 1, 2, 4), 60);
        due("16: not so", y.dividend(ORDER, 2, 1, 4), 0);
    }

    private static void orderIsCarried() {
        ToteHouse x = Days.ofOneRace(4, 100, 10);
        Days.addRace(x, 4, 0, 10);
        x.sell(0, ORDER, 1, 2, 3, 11);
        x.sell(0, 4 + ORDER, 1, 2, 3, 4);
        x.sell(0, 4 + ORDER, 3, 2, 1, 1);
        Days.finish(x, 0, 3, 2, 1, 0);
        due("18: DEDUCTED", x.book(ORDER, 3), 11);
        due("18: CARRIED OUT", x.book(ORDER, 5), 99);
        due("18: BREAKAGE", x.book(ORDER, 6), 0);
        due("18: nothing given back", x.book(ORDER, 2), 0);
        due("14: LIVE, and nothing DUE", x.ticket(0, 5) + x.ticket(0, 7), 0);
        due("13: it gets nothing", x.pay(0), 0);
        due("18: CARRIED IN", x.book(4 + ORDER, 4), 99);
        due("10: CARRIED IN", x.raceAt(1, 4), 99);
        due("19: not to THE REST", x.rest(), 0);
        due("17: odds with it", x.odds(4 + ORDER, 1, 2, 3), 30);
        Days.finish(x, 1, 1, 2, 3, 0);
        // NET 50 and 99, by 4 is 37
        due("16: with it", x.dividend(4 + ORDER, 1, 2, 3), 30);
        due("18: BREAKAGE of all", x.book(4 + ORDER, 6), 29);
        due("18: CARRIED IN stays told", x.book(4 + ORDER, 4), 99);
        ToteHouse y = Days.ofOneRace(4, 0, 10);
        y.sell(0, ORDER, 1, 2, 3, 5);
        Days.finish(y, 0, 3, 2, 1, 0);
        due("19: THE REST", y.rest(), 50);
    }

    private static void orderIsCarriedPastRaces() {
        ToteHouse x = new ToteHouse();
        Days.addRace(x, 4, 0, 10);
        Days.addRace(x, 4, 0, 10);
        Days.addRace(x, 4, 0, 10);
        x.race(4);
        Days.addRace(x, 4, 0, 10);
        x.sell(0, 4 + ORDER, 1, 2, 3, 7);
        Days.finish(x, 2, 1, 2, 3);
        x.off(4);
        Days.finish(x, 1, 3, 2, 1);
        due("18: past one OFFICIAL, past one without an ORDER, to one that is OFF", x.book(16 + ORDER, 4), 70);
        due("18: not to one ahead", x.book(ORDER, 4), 0);
        due("10: none without an ORDER", x.raceAt(3, 4), 0);
        x.sell(0, ORDER, 1, 2, 3, 2);
        Days.finish(x, 0, 3, 2, 1);
        due("18: on top", x.book(16 + ORDER, 4), 90);
        Days.finish(x, 4, 3, 2, 1);
        due("18: CARRIED OUT again", x.book(16 + ORDER, 5), 90);
        due("19: THE REST at last", x.rest(), 90);
        ToteHouse y = new ToteHouse();
        Days.addRace(y, 3, 0, 10);
        Days.addRace(y, 4, 500, 10);
        y.sell(0, ORDER, 1, 2, 3, 6);
        Days.finish(y, 0, 3, 2, 1);
        y.sell(0, 4 + ORDER, 2, 3, 4, 8);
        y.scratch(1, 1);
        y.scratch(1, 2);
        Days.finish(y, 1, 0, 0, 1, 2);
        due("18: VOID: what was CARRIED IN alone", y.book(4 + ORDER, 5), 60);
        due("18: VOID: REFUNDED", y.book(4 + ORDER, 2), 80);
        due("18: VOID: nothing DEDUCTED", y.book(4 + ORDER, 3), 0);
        due("19: to THE REST", y.rest(), 60);
    }

    private static void doubleWithADeadHeat() {
        ToteHouse x = new ToteHouse();
        x.race(3);
        x.race(3);
        x.twin(0, 1, 100, 10);
        x.sell(0, DOUBLE, 1, 3, 0, 3);
        x.sell(0, DOUBLE, 2, 3, 0, 2);
        x.sell(0, DOUBLE, 1, 3, 0, 4);
        x.sell(0, DOUBLE, 3, 1, 0, 21);
        Days.finish(x, 0, 1, 1, 3);
        Days.finish(x, 1, 2, 3, 1);
        // GROSS 300, NET 270, 135 each: by 7 is 19, by 2 is 67
        due("16: THE DOUBLE", x.dividend(DOUBLE, 1, 3, 0), 10);
        due("16: THE DOUBLE of the other first", x.dividend(DOUBLE, 2, 3, 0), 60);
        due("16: the other way round", x.dividend(DOUBLE, 3, 1, 0), 0);
        due("18: BREAKAGE", x.book(DOUBLE, 6), 270 - 70 - 120);
        due("49: DEDUCTED of THE DOUBLE, too", x.count(5), 30);
        ToteHouse y = new ToteHouse();
        y.race(3);
        y.race(3);
        y.twin(0, 1, 0, 10);
        for (int a = 1; a <= 3; a++) {
            for (int b = 1; b <= 3; b++) {
                y.sell(0, DOUBLE, a, b, 0, 1);
            }
        }
        Days.finish(y, 0, 3, 1, 1);
        Days.finish(y, 1, 1, 1, 3);
        for (int a = 1; a <= 3; a++) {
            for (int b = 1; b <= 3; b++) {
                // four TAKERS of 22 each
                due("16: THE DOUBLE " + a + ", " + b, y.dividend(DOUBLE, a, b, 0), a > 1 && b < 3 ? 20 : 0);
            }
        }
    }

    private static void noTakers() {
        ToteHouse x = Days.ofOneRace(6, 200, 10);
        x.race(3);
        x.twin(0, 1, 200, 10);
        x.sell(0, WIN, 5, 0, 0, 1);
        x.sell(0, PLACE, 5, 0, 0, 2);
        x.sell(0, PAIR, 5, 6, 0, 3);
        x.sell(0, DOUBLE, 5, 1, 0, 4);
        x.sell(0, WIN, 6, 0, 0, 5);
        x.cancel(4);
        due("9: all", Days.finish(x, 0, 1, 2, 3, 4, 0, 0), 4);
        Days.finish(x, 1, 1, 2, 3);
        int[] pools = {WIN, PLACE, PAIR, DOUBLE};
        for (int i = 0; i < 4; i++) {
            due("18: REFUNDED of pool " + pools[i], x.book(pools[i], 2), 10 * (i + 1));
            due("18: DEDUCTED of pool " + pools[i], x.book(pools[i], 3), 0);
            due("18: CARRIED OUT of pool " + pools[i], x.book(pools[i], 5), 0);
            due("18: BREAKAGE of pool " + pools[i], x.book(pools[i], 6), 0);
            due("18: DUE of pool " + pools[i], x.book(pools[i], 8), 0);
            due("14: state of " + i, x.ticket(i, 5), 2);
            due("13: pay(" + i + ")", x.pay(i), STATE);
        }
        due("14: CANCELLED stays so", x.ticket(4, 5), 1);
        due("16: all was REFUNDED", x.dividend(WIN, 5, 0, 0), 0);
        due("49: nothing DEDUCTED", x.count(5), 0);
    }

    private static void odds() {
        ToteHouse x = Days.ofOneRace(8, 100, 10);
        x.sell(0, WIN, 2, 0, 0, 5);
        x.sell(0, WIN, 3, 0, 0, 5);
        x.sell(0, PLACE, 1, 0, 0, 5);
        x.sell(0, PLACE, 2, 0, 0, 5);
        x.sell(0, PLACE, 3, 0, 0, 5);
        x.sell(0, PLACE, 4, 0, 0, 25);
        x.sell(0, PAIR, 1, 2, 0, 9);
        x.sell(0, PAIR, 1, 3, 0, 11);
        x.sell(0, ORDER, 2, 1, 3, 3);
        x.sell(0, ORDER, 1, 2, 3, 2);
        long before = x.digest();
        due("17: WIN", x.odds(WIN, 2, 1, 3), 10);
        due("17: WIN without UNITS", x.odds(WIN, 1, 2, 3), 0);
        // NET 360, STAKES 150, GAIN 210: 70 each, by 5 is 14
        due("17: PLACE of three", x.odds(PLACE, 1, 2, 3), 20);
        // two alone: GAIN 260, 130 each, by 5 is 26
        due("17: PLACE of two", x.odds(PLACE, 1, 2, 0), 30);
        due("17: PAIR, in either order", x.odds(PAIR, 2, 1, 4), 20);
        due("17: PAIR of two alone", x.odds(PAIR, 1, 2, 0), 20);
        due("17: RUNNER 1 third", x.odds(ORDER, 3, 2, 1), 0);
        due("17: PLACE with RUNNER 1 third", x.odds(PLACE, 3, 2, 1), 20);
        due("17: ORDER", x.odds(ORDER, 2, 1, 3), 10);
        due("17: ORDER, of the other", x.odds(ORDER, 1, 2, 3), 20);
        due("17: ORDER of two alone", x.odds(ORDER, 2, 1, 0), 0);
        due("17: nothing is changed", x.digest(), before);
        due("17: not SETTLED", x.book(WIN, 10), 0);
        x.off(0);
        x.place(0, 5, 1);
        due("17: OFF, and others have no POSITION", x.odds(WIN, 2, 1, 3), 10);
        due("17: as it was", x.raceAt(0, 15), 1);
        ToteHouse y = Days.ofOneRace(4, 0, 10);
        y.sell(0, PLACE, 1, 0, 0, 1);
        due("17: VOID", y.odds(PLACE, 1, 2, 3), 0);
    }

    private static void oddsRefusals() {
        ToteHouse x = Days.ofOneRace(4, 0, 10);
        x.race(4);
        x.twin(0, 1, 0, 10);
        due("17: pool 4", x.odds(4, 1, 2, 3), UNKNOWN);
        due("17: THE DOUBLE", x.odds(DOUBLE, 1, 2, 3), UNKNOWN);
        due("17: a 0", x.odds(WIN, 0, 2, 3), OUTSIDE);
        due("17: b 0, of WIN", x.odds(WIN, 1, 0, 0), OUTSIDE);
        due("17: b 5", x.odds(WIN, 1, 5, 3), OUTSIDE);
        due("17: c 5", x.odds(WIN, 1, 2, 5), OUTSIDE);
        due("17: c -1", x.odds(WIN, 1, 2, -1), OUTSIDE);
        due("17: a is b, of WIN", x.odds(WIN, 1, 1, 3), SAME);
        due("17: a is c", x.odds(WIN, 1, 2, 1), SAME);
        due("17: b is c", x.odds(WIN, 1, 2, 2), SAME);
        x.scratch(0, 4);
        due("17: a OUT", x.odds(WIN, 4, 2, 3), GONE);
        due("17: b OUT", x.odds(WIN, 1, 4, 3), GONE);
        due("17: c OUT", x.odds(WIN, 1, 2, 4), GONE);
        due("17: SAME ahead of GONE", x.odds(WIN, 4, 4, 3), SAME);
        Days.finish(x, 0, 1, 2, 3);
        due("17: GONE ahead of STATE", x.odds(WIN, 4, 2, 3), GONE);
        due("17: OFFICIAL", x.odds(WIN, 1, 2, 3), STATE);
    }

    private static void book() {
        ToteHouse x = Days.ofOneRace(5, 100, 10);
        due("18: pool 4", x.book(4, 0), UNKNOWN);
        due("18: pool -1", x.book(-1, 0), UNKNOWN);
        due("18: THE DOUBLE", x.book(DOUBLE, 0), UNKNOWN);
        due("18: pool 49", x.book(49, 0), UNKNOWN);
        due("18: 11", x.book(WIN, 11), OUTSIDE);
        due("18: -1", x.book(WIN, -1), OUTSIDE);
        x.sell(0, WIN, 1, 0, 0, 10);
        x.sell(0, WIN, 1, 0, 0, 20);
        x.sell(0, WIN, 2, 0, 0, 40);
        x.sell(0, WIN, 3, 0, 0, 80);
        x.cancel(1);
        x.scratch(0, 3);
        int[] before = {1500, 200, 800, 0, 0, 0, 0, 0, 0, 0, 0};
        for (int what = 0; what <= 10; what++) {
            due("18: before, " + what, x.book(WIN, what), before[what]);
        }
        Days.finish(x, 0, 1, 2, 0, 3);
        x.pay(0);
        int[] after = {1500, 200, 800, 50, 0, 0, 50, 0, 400, 400, 1};
        for (int what = 0; what <= 10; what++) {
            due("18: after, " + what, x.book(WIN, what), after[what]);
        }
    }

    private static void unclaimed() {
        ToteHouse x = Days.ofOneRace(5, 0, 10);
        Days.addRace(x, 5, 0, 10);
        x.sell(0, WIN, 1, 0, 0, 10);
        x.sell(0, WIN, 1, 0, 0, 20);
        x.sell(0, PAIR, 1, 2, 0, 5);
        x.sell(0, 4 + WIN, 1, 0, 0, 5);
        due("20: none SETTLED", x.unclaimed(), 0);
        Days.finish(x, 0, 1, 2, 3);
        due("20: of SETTLED POOLS", x.unclaimed(), 350);
        x.pay(1);
        due("20: less what was PAID", x.unclaimed(), 150);
    }

    private static void worst() {
        ToteHouse x = Days.ofOneRace(5, 0, 10);
        due("21: no race", x.worst(1), UNKNOWN);
        due("21: no TICKETS, the first ROW", x.worst(0), 10203);
        due("22: nothing", x.worstDue(), 0);
        x.sell(0, WIN, 4, 0, 0, 3);
        x.sell(0, WIN, 2, 0, 0, 7);
        // WIN 100: by 3 is 33, so 90 for 4; by 7 is 14, so 70 for 2
        due("21: 4 ahead", x.worst(0), 40102);
        due("22: 90", x.worstDue(), 90);
        x.sell(0, PAIR, 2, 5, 0, 10);
        due("21: 2 ahead, then 5", x.worst(0), 20501);
        due("22: 70 and 100", x.worstDue(), 170);
        x.sell(0, ORDER, 2, 5, 4, 1);
        due("21: and 4", x.worst(0), 20504);
        x.sell(0, PLACE, 3, 0, 0, 20);
        // with PLACE: 3 second costs PAIR and ORDER, and has 200
        due("21: 4 and 3 have 90 and 200", x.worst(0), 40301);
        due("22: 290", x.worstDue(), 290);
        long before = x.digest();
        x.worst(0);
        due("21: nothing is changed", x.digest(), before);
        x.off(0);
        due("21: OFF", x.worst(0), 40301);
        Days.finish(x, 0, 1, 2, 3);
        due("21: OFFICIAL", x.worst(0), STATE);
        due("22: of the latest that was not refused", x.worstDue(), 290);
    }

    private static void worstOfTwo() {
        ToteHouse x = Days.ofOneRace(4, 0, 10);
        x.sell(0, WIN, 3, 0, 0, 5);
        x.scratch(0, 2);
        x.scratch(0, 4);
        due("21: of two", x.worst(0), 30100);
        due("22: 50", x.worstDue(), 50);
        x.scratch(0, 1);
        due("21: one is left", x.worst(0), GONE);
        due("22: as it was", x.worstDue(), 50);
        x.off(0);
        x.place(0, 3, 1);
        x.official(0);
        due("21: STATE ahead of GONE", x.worst(0), STATE);
        ToteHouse y = Days.ofOneRace(4, 0, 10);
        y.sell(0, PAIR, 2, 4, 0, 5);
        y.scratch(0, 1);
        due("21: those that are not OUT", y.worst(0), 20403);
    }

    private static void worstWithCarriedIn() {
        ToteHouse x = Days.ofOneRace(4, 0, 10);
        Days.addRace(x, 4, 0, 10);
        x.race(4);
        x.twin(1, 2, 0, 10);
        x.sell(0, ORDER, 1, 2, 3, 10);
        x.sell(0, 4 + ORDER, 4, 2, 3, 1);
        x.sell(0, DOUBLE, 1, 1, 0, 1000);
        Days.finish(x, 0, 3, 2, 1);
        Days.finish(x, 2, 1, 2, 3);
        due("21: ORDER with what was CARRIED IN, and not THE DOUBLE", x.worst(1), 40203);
        due("22: 110", x.worstDue(), 110);
    }

    private static void premium() {
        ToteHouse x = Days.ofOneRace(5, 333, 10);
        due("23: window 6", x.premium(6), UNKNOWN);
        due("23: window -1", x.premium(-1), UNKNOWN);
        due("23: no TICKET", x.premium(0), -16);
        due("48: ZERO", x.finding(), 6);
        x.sell(0, WIN, 1, 0, 0, 10);
        x.sell(1, WIN, 2, 0, 0, 7);
        x.sell(1, WIN, 2, 0, 0, 5);
        x.sell(1, PAIR, 2, 3, 0, 1);
        x.cancel(2);
        due("23: nothing DEDUCTED", x.premium(0), 0);
        Days.finish(x, 0, 1, 2, 3);
        // 170 times 333 by 1000 is 56; the PAIR is REFUNDED; UNITS of any state: 10, 13
        due("49: DEDUCTED", x.count(5), 56);
        due("23: 560 by 23", x.premium(0), 24);
        due("23: 728 by 23", x.premium(1), 31);
        due("23: no TICKETS of its own", x.premium(5), 0);
    }

    /** 200 TICKETS of the dearest kind: sums that go beyond an int on the way. */
    private static void greatSums() {
        ToteHouse x = Days.ofOneRace(5, 500, 1000);
        for (int t = 0; t < 200; t++) {
            x.sell(t % 2, WIN, 1 + t % 2, 0, 0, 1000);
        }
        due("18: 200 000 000", x.book(WIN, 0), 200_000_000);
        due("17: odds", x.odds(WIN, 1, 2, 3), 1000);
        Days.finish(x, 0, 1, 2, 3);
        due("18: DEDUCTED", x.book(WIN, 3), 100_000_000);
        due("16: dividend", x.dividend(WIN, 1, 0, 0), 1000);
        due("18: DUE", x.book(WIN, 8), 100_000_000);
        due("20: unclaimed", x.unclaimed(), 100_000_000);
        due("23: the half", x.premium(1), 50_000_000);
    }
}
