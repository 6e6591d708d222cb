/** Boundary cases of promises 1 to 10: a new object, and the day. */
final class DayEdges {
    private static final int UNKNOWN = ToteHouse.UNKNOWN, OUTSIDE = ToteHouse.OUTSIDE, SAME = ToteHouse.SAME,
        GONE = ToteHouse.GONE, STATE = ToteHouse.STATE, FULL = ToteHouse.FULL;
    private static final int LEAST = Edge.LEAST, GREATEST = Edge.GREATEST;
    /** Of the mixed day and the bare one. */
    private static final int[] NO_RACES = {-1, 4, 12, LEAST, GREATEST};

    private DayEdges() {
    }

    static void all() {
        newObject();
        race();
        poolNumbers();
        poolTerms();
        poolRefusals();
        twinTerms();
        twinRefusals();
        substitute();
        scratch();
        off();
        place();
        placeRefusals();
        officialRefusals();
        officialCounts();
        officialSettles();
        raceAt();
        raceAtRefusals();
    }

    private static void due(String edge, long got, long want) {
        Edge.due(edge, got, want);
    }

    private static void newObject() {
        ToteHouse x = new ToteHouse();
        Edge.of(1, "No RACES");
        due("count(0)", x.count(0), 0);
        due("race 0", x.raceAt(0, 0), UNKNOWN);
        Edge.of(1, "POOLS");
        due("count(1)", x.count(1), 0);
        for (int pool = 0; pool <= 48; pool++) {
            due("pool " + pool, x.book(pool, 10), UNKNOWN);
        }
        Edge.of(1, "TICKETS");
        due("count(2)", x.count(2), 0);
        due("count(3)", x.count(3), 0);
        due("ticket 0", x.ticket(0, 0), UNKNOWN);
        Edge.of(1, "THE REST is 0");
        due("rest()", x.rest(), 0);
        Edge.of(1, "SATCHELS");
        for (int s = 0; s < 4; s++) {
            due("satchel " + s, x.cash(s), -11);
        }
        Edge.of(1, "all DRAWERS are LOST");
        for (int window = 0; window < 6; window++) {
            due("window " + window, x.lose(window), -11);
        }
    }

    private static void race() {
        Edge.of(2, "A RACE of n RUNNERS (2 to 12)");
        ToteHouse x = new ToteHouse();
        due("n 2, the least", x.race(2), 0);
        due("has two", x.raceAt(0, 1), 2);
        due("n 12, the greatest", x.race(12), 1);
        due("has twelve", x.raceAt(1, 1), 12);
        Edge.of(2, "OUTSIDE");
        for (int n : new int[] {1, 13, 0, -1, -2, LEAST, GREATEST}) {
            Edge.refused("n " + n, y -> y.race(n), OUTSIDE);
        }
        Edge.of(2, "SELLING: its number");
        ToteHouse z = new ToteHouse();
        for (int r = 0; r < 12; r++) {
            due("race " + r + " of twelve", z.race(2), r);
            due("race " + r + " is SELLING", z.raceAt(r, 0), 0);
        }
        Edge.of(2, "FULL");
        Edge.refused(Days::full, "a thirteenth", y -> y.race(2), FULL);
        Edge.refused(Days::full, "a thirteenth of 12", y -> y.race(12), FULL);
        Edge.of(2, "OUTSIDE; FULL");
        Edge.refused(Days::full, "a thirteenth of 13", y -> y.race(13), OUTSIDE);
        Edge.refused(Days::full, "a thirteenth of 1", y -> y.race(1), OUTSIDE);
    }

    private static void poolNumbers() {
        Edge.of(3, "its number");
        ToteHouse x = Days.full();
        due("WIN of the first RACE", x.pool(0, 0, 0, 10), 0);
        due("ORDER of the first RACE", x.pool(0, 3, 0, 10), 3);
        due("WIN of the second RACE", x.pool(1, 0, 0, 10), 4);
        due("ORDER of the last RACE", x.pool(11, 3, 0, 10), 47);
        Edge.of(3, "A POOL of a KIND 0 .. 3");
        for (int kind = 0; kind <= 3; kind++) {
            due("KIND " + kind, Days.bare().pool(2, kind, 0, 10), 8 + kind);
        }
        for (int kind : new int[] {-1, 4, 5, 48, LEAST, GREATEST}) {
            Edge.refused("KIND " + kind, y -> y.pool(3, kind, 0, 10), OUTSIDE);
        }
    }

    private static void poolTerms() {
        Edge.of(3, "DEDUCTION 0 to 500");
        for (int deduction : new int[] {0, 500}) {
            due("deduction " + deduction, Days.bare().pool(2, 0, deduction, 10), 8);
        }
        for (int deduction : new int[] {-1, 501, LEAST, GREATEST}) {
            Edge.refused("deduction " + deduction, y -> y.pool(3, 0, deduction, 10), OUTSIDE);
        }
        Edge.of(3, "UNIT 10 to 1000");
        for (int unit : new int[] {10, 20, 990, 1000}) {
            due("unit " + unit, Days.bare().pool(2, 0, 0, unit), 8);
        }
        for (int unit : new int[] {0, 9, 1001, 1010, -10, LEAST, GREATEST}) {
            Edge.refused("unit " + unit, y -> y.pool(3, 0, 0, unit), OUTSIDE);
        }
        Edge.of("Terms", "a UNIT (cents, whole tens)");
        for (int unit : new int[] {11, 15, 19, 991, 999}) {
            Edge.refused("pool() with unit " + unit, y -> y.pool(3, 0, 0, unit), OUTSIDE);
            Edge.refused(Days::bare, "twin() with unit " + unit, y -> y.twin(2, 3, 0, unit), OUTSIDE);
        }
    }

    private static void poolRefusals() {
        Edge.of(3, "UNKNOWN");
        for (int race : NO_RACES) {
            Edge.refused("race " + race, y -> y.pool(race, 0, 0, 10), UNKNOWN);
        }
        Edge.of(3, "UNKNOWN; OUTSIDE");
        Edge.refused("no RACE, no KIND", y -> y.pool(4, 4, 0, 10), UNKNOWN);
        Edge.of(3, "SAME: it is there");
        for (int kind = 0; kind <= 3; kind++) {
            int told = kind;
            Edge.refused("KIND " + kind + " again", y -> y.pool(1, told, 100, 10), SAME);
        }
        Edge.of(3, "OUTSIDE; SAME: it is there");
        Edge.refused("there, with a DEDUCTION of 501", y -> y.pool(1, 0, 501, 10), OUTSIDE);
        Edge.of(3, "STATE: the RACE is not SELLING");
        Edge.refused(Days::bare, "OFF", y -> y.pool(1, 0, 0, 10), STATE);
        Edge.refused(Days::bare, "OFFICIAL", y -> y.pool(0, 0, 0, 10), STATE);
        Edge.refused(Days::bare, "OUTSIDE ahead of it", y -> y.pool(1, 0, 0, 5), OUTSIDE);
        Edge.of(3, "SAME: it is there; STATE: the RACE is not SELLING");
        Edge.refused("there, and OFF", y -> y.pool(2, 0, 0, 10), SAME);
        Edge.refused("there, and OFFICIAL", y -> y.pool(0, 3, 0, 10), SAME);
    }

    private static void twinTerms() {
        Edge.of(4, "THE DOUBLE, likewise: 48");
        due("of the first and the last RACE", Days.full().twin(0, 11, 0, 10), 48);
        due("of two neighbours", Days.full().twin(10, 11, 500, 1000), 48);
        for (int deduction : new int[] {-1, 501, LEAST, GREATEST}) {
            Edge.refused(Days::bare, "deduction " + deduction, y -> y.twin(2, 3, deduction, 10), OUTSIDE);
        }
        for (int unit : new int[] {0, 9, 1001, 1010, -10, LEAST, GREATEST}) {
            Edge.refused(Days::bare, "unit " + unit, y -> y.twin(2, 3, 0, unit), OUTSIDE);
        }
    }

    private static void twinRefusals() {
        Edge.of(4, "UNKNOWN");
        for (int race : NO_RACES) {
            Edge.refused(Days::bare, "first " + race, y -> y.twin(race, 3, 0, 10), UNKNOWN);
            Edge.refused(Days::bare, "second " + race, y -> y.twin(2, race, 0, 10), UNKNOWN);
        }
        Edge.of(4, "UNKNOWN; OUTSIDE");
        Edge.refused(Days::bare, "no SECOND, and it is less", y -> y.twin(2, -1, 0, 10), UNKNOWN);
        Edge.refused(Days::bare, "no FIRST, and it is not less", y -> y.twin(4, 3, 501, 10), UNKNOWN);
        Edge.of(4, "also if first is not less than second");
        Edge.refused(Days::bare, "one RACE twice", y -> y.twin(2, 2, 0, 10), OUTSIDE);
        Edge.refused(Days::bare, "the wrong way round", y -> y.twin(3, 2, 0, 10), OUTSIDE);
        Edge.refused(Days::bare, "ahead of STATE", y -> y.twin(2, 1, 0, 10), OUTSIDE);
        Edge.of(4, "also if first is not less than second; SAME: it is there");
        Edge.refused("there, the wrong way round", y -> y.twin(3, 1, 0, 10), OUTSIDE);
        Edge.refused("there, with a UNIT of 5", y -> y.twin(1, 3, 0, 5), OUTSIDE);
        Edge.of(4, "SAME: it is there");
        Edge.refused("of the same RACES", y -> y.twin(1, 3, 100, 10), SAME);
        Edge.refused("of other RACES", y -> y.twin(0, 2, 100, 10), SAME);
        Edge.of(4, "STATE: one RACE is not SELLING");
        Edge.refused(Days::bare, "FIRST OFF", y -> y.twin(1, 2, 0, 10), STATE);
        Edge.refused(Days::bare, "FIRST OFFICIAL", y -> y.twin(0, 2, 0, 10), STATE);
        Edge.refused(Days::bare, "both not", y -> y.twin(0, 1, 0, 10), STATE);
        Edge.refused(Days.after(Days::bare, x -> x.off(3)), "SECOND OFF", y -> y.twin(2, 3, 0, 10), STATE);
    }

    private static void substitute() {
        Edge.of(5, "what it was (0: none)");
        ToteHouse x = Days.full();
        due("none before, RUNNER 12, the last", x.substitute(0, 12), 0);
        due("12 before, RUNNER 1, the first", x.substitute(0, 1), 12);
        due("1 before, itself again", x.substitute(0, 1), 1);
        due("of another RACE none", x.substitute(1, 1), 0);
        refusesRunners(5, ToteHouse::substitute);
    }

    /** A call about a RUNNER of a RACE that is SELLING. */
    private interface OfRunner {
        long on(ToteHouse x, int race, int runner);
    }

    private static void refusesRunners(int promise, OfRunner call) {
        Edge.of(promise, "UNKNOWN");
        for (int race : NO_RACES) {
            Edge.refused("race " + race, y -> call.on(y, race, 1), UNKNOWN);
        }
        Edge.of(promise, "OUTSIDE");
        for (int runner : new int[] {0, 6, 13, -1, LEAST, GREATEST}) {
            Edge.refused("runner " + runner + " of five", y -> call.on(y, 1, runner), OUTSIDE);
        }
        Edge.of(promise, "UNKNOWN; OUTSIDE");
        Edge.refused("no RACE, no RUNNER", y -> call.on(y, 4, 0), UNKNOWN);
        Edge.of(promise, "GONE: it is OUT");
        Edge.refused("RUNNER 5 is OUT", y -> call.on(y, 1, 5), GONE);
        Edge.of(promise, "STATE: the RACE is not SELLING");
        Edge.refused("OFF", y -> call.on(y, 2, 1), STATE);
        Edge.refused("OFFICIAL", y -> call.on(y, 0, 1), STATE);
        Edge.refused("OUTSIDE ahead of it", y -> call.on(y, 0, 7), OUTSIDE);
        Edge.of(promise, "GONE: it is OUT; STATE: the RACE is not SELLING");
        Edge.refused("OUT, and OFF", y -> call.on(y, 2, 4), GONE);
    }

    private static void scratch() {
        Edge.of(6, "how many TICKETS were REFUNDED, or are for the SUBSTITUTE now");
        ToteHouse x = Days.mixed();
        due("none for RUNNER 4", x.scratch(1, 4), 0);
        due("one for RUNNER 3, not the CANCELLED one", x.scratch(1, 3), 1);
        due("WIN, PAIR REFUNDED and THE DOUBLE for 2, not the ORDER that was REFUNDED before", x.scratch(1, 1), 3);
        due("WIN, PLACE, and both of THE DOUBLE", x.scratch(1, 2), 4);
        ToteHouse y = Days.full();
        due("17 of 200", y.scratch(11, 1), 17);
        Edge.of(6, "A RUNNER is taken OUT");
        ToteHouse z = new ToteHouse();
        z.race(2);
        due("the first of two", z.scratch(0, 1), 0);
        due("the last one, too", z.scratch(0, 2), 0);
        due("none is left", z.raceAt(0, 2), 0);
        due("it is OUT", z.raceAt(0, 12), -1);
        refusesRunners(6, ToteHouse::scratch);
    }

    private static void off() {
        Edge.of(7, "how many RUNNERS are not OUT");
        due("all of twelve", Days.full().off(0), 12);
        due("four of five", Days.mixed().off(1), 4);
        ToteHouse x = new ToteHouse();
        x.race(2);
        x.scratch(0, 1);
        x.scratch(0, 2);
        due("none of two", x.off(0), 0);
        Edge.of(7, "A RACE is OFF");
        due("its state", x.raceAt(0, 0), 1);
        Edge.of(7, "UNKNOWN");
        for (int race : NO_RACES) {
            Edge.refused("race " + race, y -> y.off(race), UNKNOWN);
        }
        Edge.of(7, "STATE: it is not SELLING");
        Edge.refused("OFF", y -> y.off(2), STATE);
        Edge.refused("OFFICIAL", y -> y.off(0), STATE);
    }

    private static void place() {
        Edge.of(8, "(1 .. 12; 0: none)");
        ToteHouse x = Days.mixed();
        due("of 3, none: 1, the least", x.place(2, 3, 1), 0);
        due("1: 12, the greatest, of four RUNNERS", x.place(2, 3, 12), 1);
        due("12: taken away", x.place(2, 3, 0), 12);
        due("none: taken away again", x.place(2, 3, 0), 0);
        due("none", x.raceAt(2, 13), 0);
        for (int position : new int[] {-1, 13, LEAST, GREATEST}) {
            Edge.refused("position " + position, y -> y.place(2, 1, position), OUTSIDE);
        }
        Edge.of(8, "of a RUNNER: what it was");
        due("of RUNNER 1", x.place(2, 1, 5), 1);
        due("of RUNNER 2, none of the others is touched", x.place(2, 2, 5), 2);
    }

    private static void placeRefusals() {
        Edge.of(8, "UNKNOWN");
        for (int race : NO_RACES) {
            Edge.refused("race " + race, y -> y.place(race, 1, 1), UNKNOWN);
        }
        Edge.of(8, "UNKNOWN; OUTSIDE");
        Edge.refused("no RACE, no RUNNER", y -> y.place(4, 0, 1), UNKNOWN);
        Edge.refused("no RACE, no POSITION", y -> y.place(4, 1, 13), UNKNOWN);
        Edge.of(8, "OUTSIDE");
        for (int runner : new int[] {0, 5, 13, -1, LEAST, GREATEST}) {
            Edge.refused("runner " + runner + " of four", y -> y.place(2, runner, 1), OUTSIDE);
        }
        Edge.of(8, "GONE: it is OUT");
        Edge.refused("RUNNER 4", y -> y.place(2, 4, 1), GONE);
        Edge.refused("RUNNER 4, none", y -> y.place(2, 4, 0), GONE);
        Edge.of(8, "OUTSIDE; GONE: it is OUT");
        Edge.refused("RUNNER 4, POSITION 13", y -> y.place(2, 4, 13), OUTSIDE);
        Edge.of(8, "STATE: the RACE is not OFF");
        Edge.refused("SELLING", y -> y.place(1, 1, 1), STATE);
        Edge.refused("OFFICIAL", y -> y.place(0, 1, 1), STATE);
        Edge.refused("OUTSIDE ahead of it", y -> y.place(1, 1, -1), OUTSIDE);
        Edge.of(8, "GONE: it is OUT; STATE: the RACE is not OFF");
        Edge.refused("OUT, and SELLING", y -> y.place(1, 5, 1), GONE);
    }

    private static void officialRefusals() {
        Edge.of(9, "UNKNOWN");
        for (int race : NO_RACES) {
            Edge.refused("race " + race, y -> y.official(race), UNKNOWN);
        }
        Edge.of(9, "STATE: it is not OFF");
        Edge.refused("SELLING", y -> y.official(1), STATE);
        Edge.refused("OFFICIAL, with POSITIONS as they should be", y -> y.official(0), STATE);
        Edge.of(9, "POSITIONS are not RIGHT");
        int[][] wrong = {{2, 3, 4}, {1, 1, 2}, {1, 2, 4}, {1, 3, 3}, {2, 2, 2}, {2, 1, 1}, {12, 1, 2}, {1, 2, 3, 5},
            {1, 2, 3, 3, 4}, {1, 2, 3, 4, 5, 7}};
        for (int[] positions : wrong) {
            Edge.refused(() -> afterRun(6, 0, positions), said(positions), y -> y.official(0), STATE);
        }
        int[][] right = {{1, 2, 3}, {1, 1, 1}, {1, 1, 3}, {1, 2, 2}, {3, 2, 1}, {1, 2, 3, 3}, {1, 2, 2, 2, 2},
            {6, 5, 4, 3, 2, 1}};
        for (int[] positions : right) {
            due(said(positions) + " are", afterRun(6, 0, positions).official(0), 4);
        }
    }

    /** One RACE with all its POOLS, the last RUNNERS of which are OUT, that is OFF. */
    private static ToteHouse afterRun(int runners, int out, int... positions) {
        ToteHouse x = Days.ofOneRace(runners, 100, 10);
        for (int i = 0; i < out; i++) {
            x.scratch(0, runners - i);
        }
        Days.run(x, 0, positions);
        return x;
    }

    private static String said(int[] positions) {
        StringBuilder text = new StringBuilder("positions");
        for (int p : positions) {
            text.append(' ').append(p);
        }
        return text.toString();
    }

    private static void officialCounts() {
        Edge.of(9, "fewer RUNNERS have one than 3, and than are not OUT");
        Edge.refused(() -> afterRun(12, 0), "none of twelve", y -> y.official(0), STATE);
        Edge.refused(() -> afterRun(12, 0, 1, 2), "two of twelve", y -> y.official(0), STATE);
        due("three of twelve", afterRun(12, 0, 1, 2, 3).official(0), 4);
        Edge.refused(() -> afterRun(3, 0, 1, 2), "two of three", y -> y.official(0), STATE);
        due("three of three", afterRun(3, 0, 1, 2, 3).official(0), 4);
        Edge.refused(() -> afterRun(4, 1, 1, 1), "two of three, one is OUT", y -> y.official(0), STATE);
        Edge.refused(() -> afterRun(12, 10, 1), "one of two", y -> y.official(0), STATE);
        due("two of two", afterRun(12, 10, 1, 2).official(0), 4);
        Edge.refused(() -> afterRun(2, 1), "none of one", y -> y.official(0), STATE);
        due("one of one", afterRun(2, 1, 1).official(0), 4);
        due("none of none", afterRun(2, 2).official(0), 4);
    }

    private static void officialSettles() {
        Edge.of(9, "A RACE is OFFICIAL: how many POOLS were SETTLED");
        ToteHouse x = Days.bare();
        due("no POOL", Days.finish(x, 1, 1, 2, 3), 0);
        due("OFFICIAL", x.raceAt(1, 0), 2);
        x.pool(2, 3, 0, 10);
        x.twin(2, 3, 0, 10);
        due("one, and not THE DOUBLE yet", Days.finish(x, 2, 1, 2, 3), 1);
        due("THE DOUBLE alone", Days.finish(x, 3, 1, 2, 3), 1);
        ToteHouse y = Days.ofOneRace(4, 0, 10);
        Days.addRace(y, 4, 0, 10);
        y.twin(0, 1, 0, 10);
        due("four, the SECOND ahead of the FIRST", Days.finish(y, 1, 1, 2, 3), 4);
        due("five, the most", Days.finish(y, 0, 1, 2, 3), 5);
    }

    private static void raceAt() {
        Edge.of(10, "0 its state, 1 RUNNERS, 2 those not OUT, 3 its SUBSTITUTE (0)");
        int[][] want = {{2, 6, 6, 0}, {0, 5, 4, 2}, {1, 4, 3, 0}, {0, 8, 8, 0}};
        for (int race = 0; race < 4; race++) {
            for (int what = 0; what < 4; what++) {
                int r = race;
                int w = what;
                Edge.asked("race " + r + ", what " + w, y -> y.raceAt(r, w), want[r][w]);
            }
        }
        Edge.of(10, "4 what was CARRIED IN to its ORDER (0 without one)");
        Edge.asked("36 of RACE 0", y -> y.raceAt(1, 4), 36);
        Edge.asked("nothing", y -> y.raceAt(2, 4), 0);
        Edge.asked("no ORDER", y -> y.raceAt(3, 4), 0);
        Edge.of(10, "10 + i the POSITION of RUNNER i (0: none; -1: it is OUT)");
        Edge.asked("RUNNER 1", y -> y.raceAt(0, 11), 1);
        Edge.asked("RUNNER 3", y -> y.raceAt(0, 13), 3);
        Edge.asked("RUNNER 6, the last, has none", y -> y.raceAt(0, 16), 0);
        Edge.asked("RUNNER 5 is OUT", y -> y.raceAt(1, 15), -1);
        due("RUNNER 12 of twelve", Days.full().raceAt(0, 22), 0);
    }

    private static void raceAtRefusals() {
        Edge.of(10, "UNKNOWN");
        for (int race : NO_RACES) {
            Edge.refused("race " + race, y -> y.raceAt(race, 0), UNKNOWN);
        }
        Edge.of(10, "UNKNOWN; OUTSIDE");
        Edge.refused("no RACE, what 5", y -> y.raceAt(4, 5), UNKNOWN);
        Edge.of(10, "OUTSIDE");
        for (int what : new int[] {-1, 5, 9, 10, 17, 22, 23, LEAST, LEAST + 9, LEAST + 10, LEAST + 11, GREATEST}) {
            Edge.refused("what " + what + ", of six RUNNERS", y -> y.raceAt(0, what), OUTSIDE);
        }
        due("what 23, of twelve RUNNERS", Days.full().raceAt(0, 23), OUTSIDE);
    }
}
