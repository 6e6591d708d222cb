/** Days that several tests begin with. */
final class Days {
    private Days() {
    }

    /** One RACE with all its POOLS. */
    static ToteHouse ofOneRace(int runners, int deduction, int unit) {
        ToteHouse x = new ToteHouse();
        addRace(x, runners, deduction, unit);
        return x;
    }

    static void addRace(ToteHouse x, int runners, int deduction, int unit) {
        int race = x.race(runners);
        for (int kind = 0; kind < 4; kind++) {
            x.pool(race, kind, deduction, unit);
        }
    }

    /** TICKETS 0 to 4 of KINDS 0 to 4. */
    static ToteHouse ofAllKinds(int units) {
        ToteHouse x = ofOneRace(5, 0, 10);
        x.race(5);
        x.twin(0, 1, 0, 10);
        x.sell(0, 0, 1, 0, 0, units);
        x.sell(0, 1, 1, 0, 0, units);
        x.sell(0, 2, 1, 2, 0, units);
        x.sell(0, 3, 1, 2, 3, units);
        x.sell(0, 48, 1, 2, 0, units);
        return x;
    }

    /** A RACE is OFF, with POSITIONS of RUNNERS 1, 2, .. */
    static void run(ToteHouse x, int race, int... positions) {
        x.off(race);
        for (int i = 0; i < positions.length; i++) {
            x.place(race, i + 1, positions[i]);
        }
    }

    static int finish(ToteHouse x, int race, int... positions) {
        run(x, race, positions);
        return x.official(race);
    }
}
