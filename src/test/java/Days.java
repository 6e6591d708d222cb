import java.util.function.Consumer;
import java.util.function.Supplier;

/** Days that several tests begin with. */
final class Days {
    private Days() {
    }

    /** One RACE with all its POOLS. */
    static ToteHouse ofOneRace(int runners, int deduction, int unit) {
        ToteHouse x = new ToteHouse();
        addRace(x, runners, deduction, unit);
        return x;
    }

    static void addRace(ToteHouse x, int runners, int deduction, int unit) {
        int race = x.race(runners);
        for (int kind = 0; kind < 4; kind++) {
            x.pool(race, kind, deduction, unit);
        }
    }

    /** TICKETS 0 to 4 of KINDS 0 to 4. */
    static ToteHouse ofAllKinds(int units) {
        ToteHouse x = ofOneRace(5, 0, 10);
        x.race(5);
        x.twin(0, 1, 0, 10);
        x.sell(0, 0, 1, 0, 0, units);
        x.sell(0, 1, 1, 0, 0, units);
        x.sell(0, 2, 1, 2, 0, units);
        x.sell(0, 3, 1, 2, 3, units);
        x.sell(0, 48, 1, 2, 0, units);
        return x;
    }

    /** ofAllKinds(), and at WINDOW 0 TICKETS 0 to 4 in SLIPS 0 to 4; then NOTHING, a NOTE, a ROW. */
    static ToteHouse ofAllSlips() {
        ToteHouse x = ofAllKinds(1);
        x.drawer(0, 8);
        for (int t = 0; t < 5; t++) {
            x.keep(0, t, t);
        }
        x.note(0, 6, 1L, 1);
        x.coins(0, 7, 1);
        return x;
    }

    /** THE DOUBLE alone, of which 5 of 10 were DEDUCTED; its TICKET was sold at WINDOW 0. */
    static ToteHouse ofSettledTwin() {
        ToteHouse x = new ToteHouse();
        x.race(3);
        x.race(3);
        x.twin(0, 1, 500, 10);
        x.sell(0, 48, 1, 1, 0, 1);
        finish(x, 0, 1, 2, 3);
        finish(x, 1, 1, 2, 3);
        return x;
    }

    /** Such a day after one step more. */
    static Supplier<ToteHouse> after(Supplier<ToteHouse> day, Consumer<ToteHouse> step) {
        return () -> {
            ToteHouse x = day.get();
            step.accept(x);
            return x;
        };
    }

    /** A RACE is OFF, with POSITIONS of RUNNERS 1, 2, .. */
    static void run(ToteHouse x, int race, int... positions) {
        x.off(race);
        for (int i = 0; i < positions.length; i++) {
            x.place(race, i + 1, positions[i]);
        }
    }

    static int finish(ToteHouse x, int race, int... positions) {
        run(x, race, positions);
        return x.official(race);
    }

    /**
     * Something of everything. RACES: 0 is OFFICIAL (six RUNNERS), 1 is SELLING (five, 5 is OUT), 2 is OFF (four, 4 is
     * OUT, 1 and 2 have POSITIONS), each with all its POOLS; 3 is SELLING (eight), without one; THE DOUBLE is of 1 and 3.
     */
    static ToteHouse mixed() {
        ToteHouse x = ofOneRace(6, 100, 10);
        addRace(x, 5, 100, 10);
        addRace(x, 4, 100, 10);
        x.race(8);
        x.twin(1, 3, 100, 10);
        sellMixed(x);
        x.cancel(11);
        x.substitute(1, 2);
        x.scratch(1, 5);
        x.scratch(2, 4);
        finish(x, 0, 1, 2, 3);
        x.pay(0);
        run(x, 2, 1, 2);
        furnish(x);
        x.ask(8, 1);
        x.worst(1);
        x.lose(3);
        return x;
    }

    /** Of the mixed day: 0 is PAID, 1 to 3 LIVE and SETTLED, 5 REFUNDED, 11 CANCELLED, the others LIVE. */
    private static void sellMixed(ToteHouse x) {
        x.sell(0, 0, 1, 0, 0, 10);
        x.sell(1, 0, 2, 0, 0, 5);
        x.sell(0, 0, 1, 0, 0, 3);
        x.sell(2, 3, 3, 2, 1, 4);
        x.sell(0, 4, 1, 0, 0, 2);
        x.sell(0, 4, 5, 0, 0, 2);
        x.sell(0, 5, 2, 0, 0, 7);
        x.sell(0, 6, 2, 1, 0, 8);
        x.sell(0, 7, 1, 2, 3, 9);
        x.sell(5, 48, 1, 8, 0, 6);
        x.sell(5, 48, 5, 7, 0, 1);
        x.sell(0, 4, 3, 0, 0, 2);
        x.sell(0, 8, 1, 0, 0, 2);
        x.sell(4, 4, 2, 0, 0, 6);
        x.sell(3, 8, 3, 0, 0, 1);
    }

    /**
     * DRAWERS: of WINDOW 0 with a TICKET of WIN, a NOTE, a ROW, NOTHING, a TICKET of ORDER; of WINDOW 1 without SLIPS.
     * SATCHELS: 0 takes all and has TICKET 8 at place 1 of four; 1 takes WIN (three places), 2 ORDER (none); no 3.
     * LAPS: two of RACE 0, the second one no number; twelve of RACE 1.
     */
    private static void furnish(ToteHouse x) {
        x.drawer(0, 5);
        x.keep(0, 0, 4);
        x.note(0, 1, 0x00410042L, 2);
        x.coins(0, 2, 3);
        x.coin(0, 2, 0, 7);
        x.coin(0, 2, 1, -2);
        x.keep(0, 4, 8);
        x.drawer(1, 0);
        x.satchel(0, 0, 4);
        x.gather(0, 0, 0, 3, 2);
        x.satchel(1, 1, 3);
        x.satchel(2, 3, 0);
        x.lap(0, Float.floatToIntBits(1f));
        x.lap(0, Float.floatToIntBits(Float.NaN));
        for (int k = 0; k < 12; k++) {
            x.lap(1, k);
        }
    }

    /** RACES of four RUNNERS without POOLS: 0 is OFFICIAL, 1 is OFF, 2 and 3 are SELLING. */
    static ToteHouse bare() {
        ToteHouse x = new ToteHouse();
        for (int race = 0; race < 4; race++) {
            x.race(4);
        }
        finish(x, 0, 1, 2, 3, 4);
        x.off(1);
        return x;
    }

    /** Twelve RACES of twelve RUNNERS, and 200 TICKETS of the last one's WIN. */
    static ToteHouse full() {
        ToteHouse x = new ToteHouse();
        for (int race = 0; race < 12; race++) {
            x.race(12);
        }
        x.pool(11, 0, 100, 10);
        for (int t = 0; t < 200; t++) {
            x.sell(t % 6, 44, 1 + t % 12, 0, 0, 1);
        }
        return x;
    }
}
