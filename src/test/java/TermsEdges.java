import java.util.function.Supplier;

/** Boundary cases of the document's terms: the day, its tickets, findings and refusals. */
final class TermsEdges {
    private static final int NONE = ToteHouse.NONE, UNKNOWN = ToteHouse.UNKNOWN, OUTSIDE = ToteHouse.OUTSIDE,
        SAME = ToteHouse.SAME, GONE = ToteHouse.GONE, STATE = ToteHouse.STATE, FULL = ToteHouse.FULL;
    private static final int NULL = -11, INDEX = -12, CAST = -13, STORE = -14, SIZE = -15, ZERO = -16;
    private static final int GREATEST = Edge.GREATEST;

    private TermsEdges() {
    }

    static void all() {
        calls();
        face();
        races();
        pools();
        tickets();
        ticketStates();
        runnersOut();
        substitutes();
        findings();
        drawers();
        satchels();
        satchelForms();
        refusalsInOrder();
        refusalsOfAllNumbers();
        refusalsOfNumbers();
    }

    private static void due(String edge, long got, long want) {
        Edge.due(edge, got, want);
    }

    private static void calls() {
        Edge.of("What it is", "An object is used for at most 512 calls after it has been made");
        ToteHouse x = Days.full();
        // these are 213 calls; 298 and one follow
        for (int i = 0; i < 298; i++) {
            x.worst(i % 12);
        }
        due("the 512th", x.digest(), Days.full().digest());
    }

    private static void face() {
        Edge.of("The public face", "NONE = -1, UNKNOWN = -2, OUTSIDE = -3, SAME = -4, GONE = -5, STATE = -6, FULL = -7");
        int[] constants = {NONE, UNKNOWN, OUTSIDE, SAME, GONE, STATE, FULL};
        for (int i = 0; i < constants.length; i++) {
            due("constant " + i, constants[i], -1 - i);
        }
    }

    private static void races() {
        Edge.of("Terms", "RACES 0, 1, .. (12 at most)");
        ToteHouse x = Days.full();
        due("RACE 11", x.raceAt(11, 1), 12);
        due("no RACE 12", x.raceAt(12, 1), UNKNOWN);
        due("no thirteenth", x.race(2), FULL);
        Edge.of("Terms", "have RUNNERS 1 .. as many as were told (2 to 12)");
        for (int n = 2; n <= 12; n++) {
            ToteHouse y = new ToteHouse();
            y.race(n);
            due("RUNNER 0 of " + n, y.substitute(0, 0), OUTSIDE);
            due("RUNNER 1 of " + n, y.substitute(0, 1), 0);
            due("the last of " + n, y.substitute(0, n), 1);
            due("none behind the last of " + n, y.substitute(0, n + 1), OUTSIDE);
        }
        Edge.of("Terms", "a RUNNER may be OUT");
        ToteHouse z = Days.full();
        for (int i = 1; i <= 12; i++) {
            due("none for RUNNER " + i, z.scratch(0, i), 0);
            due("are left behind " + i, z.raceAt(0, 2), 12 - i);
        }
        Edge.of("Terms", "A RACE is SELLING (0), OFF (1) or OFFICIAL (2)");
        Edge.asked("SELLING", y -> y.raceAt(1, 0), 0);
        Edge.asked("OFF", y -> y.raceAt(2, 0), 1);
        Edge.asked("OFFICIAL", y -> y.raceAt(0, 0), 2);
    }

    private static void pools() {
        Edge.of("Terms", "that were told, numbered 4 r + KIND");
        ToteHouse x = Days.bare();
        for (int kind = 3; kind >= 0; kind--) {
            due("KIND " + kind + " of RACE 3", x.pool(3, kind, 0, 10), 12 + kind);
            due("the one ahead of it was not told", x.book(11 + kind, 0), UNKNOWN);
        }
        Edge.of("Terms", "and THE DOUBLE, 48, of two RACES, the FIRST and the SECOND (KIND 4)");
        ToteHouse y = Days.mixed();
        due("no second one", y.twin(1, 3, 0, 10), SAME);
        y.keep(0, 3, 9);
        due("KIND 4", y.kind(0, 3), 4);
        due("its number", y.ticket(9, 0), 48);
        due("no 49", y.book(49, 0), UNKNOWN);
        Edge.of("Terms", "It is SETTLED once");
        ToteHouse z = Days.ofOneRace(3, 100, 10);
        z.race(3);
        z.race(3);
        z.twin(0, 1, 0, 10);
        due("POOLS of RACE 0", Days.finish(z, 0, 1, 2, 3), 4);
        due("THE DOUBLE", Days.finish(z, 1, 1, 2, 3), 1);
        due("not again by another RACE", Days.finish(z, 2, 1, 2, 3), 0);
        due("not again by the same", z.official(0), STATE);
    }

    private static void tickets() {
        Edge.of("Terms", "TICKETS 0, 1, .. (200 at most)");
        ToteHouse x = Days.full();
        due("the last one", x.ticket(199, 4), 1);
        due("no more", x.sell(0, 44, 1, 0, 0, 1), FULL);
        Edge.of("Terms", "PAIR: a and b, the lesser number first");
        ToteHouse y = Days.ofOneRace(12, 0, 10);
        int told = y.sell(0, 2, 12, 1, 0, 1);
        due("12, 1: a", y.ticket(told, 1), 1);
        due("12, 1: b", y.ticket(told, 2), 12);
        int other = y.sell(0, 2, 11, 12, 0, 1);
        due("11, 12: a", y.ticket(other, 1), 11);
        Edge.of("Terms", "ORDER: a, b, c, in this order");
        int order = y.sell(0, 3, 12, 1, 11, 1);
        due("12, 1, 11", y.ticket(order, 1) * 10000 + y.ticket(order, 2) * 100 + y.ticket(order, 3), 120111);
        Edge.of("Terms", "THE DOUBLE: a of the FIRST RACE, b of the SECOND");
        ToteHouse z = Days.mixed();
        due("4 and 8, the last of each", z.sell(0, 48, 4, 8, 0, 1), 15);
        due("8 is none of the FIRST", z.sell(0, 48, 8, 4, 0, 1), OUTSIDE);
        due("as told, not the lesser first", z.ticket(z.sell(0, 48, 4, 1, 0, 1), 1), 4);
        Edge.of("Terms", "what does not count is 0)");
        Edge.asked("b of WIN", w -> w.ticket(4, 2), 0);
        Edge.asked("c of WIN", w -> w.ticket(4, 3), 0);
        Edge.asked("b of PLACE", w -> w.ticket(6, 2), 0);
        Edge.asked("c of PAIR", w -> w.ticket(7, 3), 0);
        Edge.asked("c of THE DOUBLE", w -> w.ticket(9, 3), 0);
    }

    private static void ticketStates() {
        Edge.of("Terms", "of UNITS (1 to 1000), sold at a WINDOW (0 .. 5)");
        ToteHouse x = Days.ofOneRace(2, 0, 1000);
        due("one, at 0", x.sell(0, 0, 1, 0, 0, 1), 0);
        due("1000, at 5", x.sell(5, 0, 1, 0, 0, 1000), 1);
        due("none", x.sell(0, 0, 1, 0, 0, 0), OUTSIDE);
        due("1001", x.sell(0, 0, 1, 0, 0, 1001), OUTSIDE);
        due("at -1", x.sell(-1, 0, 1, 0, 0, 1), UNKNOWN);
        due("at 6", x.sell(6, 0, 1, 0, 0, 1), UNKNOWN);
        Edge.of("Terms", "Its STAKE is its UNITS times the POOL's UNIT");
        due("1000 times 1000, and 1000", x.book(0, 0), 1_001_000);
        due("the greatest", x.cancel(1), 1_000_000);
        Edge.of("Terms", "State: 0 LIVE, 1 CANCELLED, 2 REFUNDED, 3 PAID");
        Edge.asked("LIVE", y -> y.ticket(1, 5), 0);
        Edge.asked("CANCELLED", y -> y.ticket(11, 5), 1);
        Edge.asked("REFUNDED", y -> y.ticket(5, 5), 2);
        Edge.asked("PAID", y -> y.ticket(0, 5), 3);
    }

    private static void runnersOut() {
        Edge.of("Terms", "each LIVE TICKET of the RACE's POOLS and THE DOUBLE for that RUNNER of that RACE is REFUNDED");
        ToteHouse x = Days.mixed();
        x.scratch(3, 8);
        due("b of THE DOUBLE, without a SUBSTITUTE", x.ticket(9, 5), 2);
        due("its STAKE", x.book(48, 2), 60);
        due("a of the other one is no 8 of that RACE", x.ticket(10, 5), 0);
        x.scratch(1, 3);
        due("c of ORDER", x.ticket(8, 5), 2);
        due("one CANCELLED stays so", x.ticket(11, 5), 1);
        x.scratch(3, 1);
        due("RUNNER 1 of another RACE: WIN", x.ticket(4, 5), 0);
        due("RUNNER 1 of another RACE: PAIR", x.ticket(7, 5), 0);
        x.scratch(1, 2);
        due("b of PAIR", x.ticket(7, 5), 2);
        due("PLACE", x.ticket(6, 5), 2);
        due("WIN of another RUNNER", x.ticket(4, 5), 0);
        due("RUNNER 2 of RACE 0", x.ticket(1, 5), 0);
    }

    private static void substitutes() {
        Edge.of("Terms", "if that RACE has a SUBSTITUTE that is not OUT (nor this RUNNER), it is for that one from now on");
        ToteHouse x = Days.mixed();
        due("5 was OUT, 2 is the SUBSTITUTE", x.ticket(10, 1), 2);
        due("LIVE", x.ticket(10, 5), 0);
        x.scratch(1, 1);
        due("1 as well", x.ticket(9, 1), 2);
        due("WIN is REFUNDED all the same", x.ticket(4, 5), 2);
        x.scratch(1, 2);
        due("the SUBSTITUTE itself", x.ticket(9, 5), 2);
        due("and the other TICKET for it", x.ticket(10, 5), 2);
        int late = x.sell(0, 48, 3, 1, 0, 1);
        x.scratch(1, 3);
        due("a SUBSTITUTE that is OUT", x.ticket(late, 5), 2);
        int last = x.sell(0, 48, 4, 1, 0, 1);
        x.substitute(3, 2);
        x.scratch(3, 1);
        due("b, in the SECOND", x.ticket(last, 2), 2);
        due("a as it was", x.ticket(last, 1), 4);
        x.scratch(1, 4);
        due("a SUBSTITUTE of the other RACE does not serve", x.ticket(last, 5), 2);
    }

    private static void findings() {
        Edge.of("Terms", "FINDINGS are what an act meets; it answers -10 less its number, and changes nothing but as told");
        Edge.refused(ToteHouse::new, "1, the least number", x -> x.lose(0), -11);
        Edge.refused(ToteHouse::new, "6, the greatest number", x -> x.premium(0), -16);
        Edge.of("Terms", "1 NULL: the DRAWER is LOST, a SLIP holds NOTHING, there is no SATCHEL");
        Edge.refused("LOST", x -> x.kind(2, 0), NULL);
        Edge.refused("NOTHING", x -> x.read(0, 3), NULL);
        Edge.refused("no SATCHEL", x -> x.held(3, 0), NULL);
        Edge.of("Terms", "2 INDEX: there is no such SLIP, CHAR, COIN, place, LAP");
        Edge.refused("SLIP", x -> x.kind(0, 5), INDEX);
        Edge.refused("CHAR", x -> x.letter(0, 1, 2), INDEX);
        Edge.refused("COIN", x -> x.coin(0, 2, 3, 1), INDEX);
        Edge.refused("place", x -> x.held(0, 4), INDEX);
        Edge.refusedByZero("LAP", x -> x.lapAt(0, 2), 2);
        Edge.of("Terms", "3 CAST: a SLIP holds something else");
        Edge.refused("a NOTE for a TICKET", x -> x.read(0, 1), CAST);
        Edge.refused("a ROW for a NOTE", x -> x.letter(0, 2, 0), CAST);
        Edge.refused("a TICKET for a ROW", x -> x.coin(0, 0, 0, 1), CAST);
        Edge.of("Terms", "5 SIZE: below 0");
        Edge.refused("DRAWER", x -> x.drawer(0, -1), SIZE);
        Edge.refused("ROW", x -> x.coins(0, 0, -1), SIZE);
        Edge.refused("SATCHEL", x -> x.satchel(0, 0, -1), SIZE);
        Edge.of("Terms", "6 ZERO: by nothing");
        Edge.refused(Days::bare, "UNITS of all", x -> x.premium(0), ZERO);
        Edge.refusedByZero("a COIN of 0", x -> x.change(0, 2, 0, 2), 6);
    }

    private static void drawers() {
        Edge.of("Terms", "DRAWERS of WINDOWS (LOST at first) are rows of 0 to 12 SLIPS");
        for (int window = 0; window < 6; window++) {
            ToteHouse x = new ToteHouse();
            due("LOST, WINDOW " + window, x.kind(window, 0), NULL);
            due("none", x.drawer(window, 0), 0);
            due("twelve", x.drawer(window, 12), 12);
            due("thirteen", x.drawer(window, 13), OUTSIDE);
            due("another WINDOW's is LOST still", x.lose((window + 1) % 6), NULL);
            due("the last SLIP", x.kind(window, 11), NONE);
        }
        Edge.of("Terms", "each holds NOTHING (at first)");
        ToteHouse y = Days.mixed();
        y.drawer(0, 12);
        for (int i = 0; i < 12; i++) {
            due("SLIP " + i + " of a new one", y.kind(0, i), NONE);
        }
        Edge.of("Terms", "a NOTE (1 to 4 CHARS) or a ROW of COINS (ints, 8 at most)");
        due("no CHARS", y.note(0, 0, 1L, 0), OUTSIDE);
        due("five CHARS", y.note(0, 0, 1L, 5), OUTSIDE);
        due("nine COINS", y.coins(0, 0, 9), OUTSIDE);
        due("eight COINS", y.coins(0, 0, 8), 8);
        due("the last of them the greatest int", y.coin(0, 0, 7, GREATEST), 1);
        due("which it is", y.coinAt(0, 0, 7), GREATEST);
    }

    private static void satchels() {
        Edge.of("Terms", "SATCHELS 0 .. 3 (none at first) of a FORM have 0 to 10 places with a TICKET or NOTHING");
        for (int s = 0; s < 4; s++) {
            ToteHouse x = new ToteHouse();
            due("none at first, " + s, x.held(s, 0), NULL);
            due("no places", x.satchel(s, 0, 0), 0);
            due("ten places", x.satchel(s, 0, 10), 10);
            due("eleven places", x.satchel(s, 0, 11), OUTSIDE);
            for (int place = 0; place < 10; place++) {
                due("NOTHING at " + place, x.held(s, place), NONE);
            }
            due("another one is not there", x.cash((s + 1) % 4), NULL);
        }
    }

    private static void satchelForms() {
        String[] words = {"FORM 0 takes TICKETS", "1 those of WIN (and of PLACE: these are such, too)",
            "2 of PAIR (and of ORDER, likewise)", "3 of ORDER", "4 of THE DOUBLE", "5 of PLACE"};
        String[] kinds = {"01234", "01", "23", "3", "4", "1"};
        for (int form = 0; form < 6; form++) {
            Edge.of("Terms", words[form]);
            ToteHouse x = ofForm(form);
            for (int kind = 0; kind < 5; kind++) {
                boolean takes = kinds[form].indexOf('0' + kind) >= 0;
                due("KIND " + kind + " by gather()", x.gather(0, 0, 0, kind, 1), takes ? 1 : STORE);
                due("KIND " + kind + " by shift()", x.shift(1, kind, 0, 0, 1), takes ? 1 : STORE);
            }
        }
        Edge.of("Terms", "Each takes NOTHING, too");
        for (int form = 0; form < 6; form++) {
            due("FORM " + form + " by gather()", ofForm(form).gather(0, 0, 0, 5, 1), 1);
            due("FORM " + form + " by shift()", ofForm(form).shift(1, 5, 0, 0, 1), 1);
        }
        Edge.of("Terms", "none takes a NOTE, a ROW");
        for (int form = 0; form < 6; form++) {
            due("FORM " + form + ", a NOTE", ofForm(form).gather(0, 0, 0, 6, 1), STORE);
            due("FORM " + form + ", a ROW", ofForm(form).gather(0, 0, 0, 7, 1), STORE);
        }
        Edge.of("Terms", "4 STORE: a SATCHEL does not take it");
        due("its number", STORE, -14);
        due("it is the latest", storeFinding(), 4);
    }

    private static int storeFinding() {
        ToteHouse x = ofForm(5);
        x.gather(0, 0, 0, 0, 1);
        return x.finding();
    }

    /** SATCHEL 0 is of this FORM, with one place; SATCHEL 1 has what SLIPS 0 to 5 hold. */
    private static ToteHouse ofForm(int form) {
        ToteHouse x = Days.ofAllSlips();
        x.satchel(0, form, 1);
        x.satchel(1, 0, 6);
        x.gather(1, 0, 0, 0, 6);
        return x;
    }

    /** One call that can be refused in every way but FINDINGS, all of them at once, then one less each time. */
    private static void refusalsInOrder() {
        Edge.of("Terms", "of several the first as told by each call");
        Supplier<ToteHouse> day = () -> {
            ToteHouse x = Days.full();
            x.pool(10, 2, 0, 10);
            x.scratch(10, 12);
            x.off(10);
            return x;
        };
        Edge.refused(day, "UNKNOWN, OUTSIDE, SAME, GONE, STATE, FULL", x -> x.sell(6, 42, 12, 12, 1, 0), UNKNOWN);
        Edge.refused(day, "OUTSIDE, SAME, GONE, STATE, FULL", x -> x.sell(5, 42, 12, 12, 0, 0), OUTSIDE);
        Edge.refused(day, "SAME, GONE, STATE, FULL", x -> x.sell(5, 42, 12, 12, 0, 1), SAME);
        Edge.refused(day, "GONE, STATE, FULL", x -> x.sell(5, 42, 12, 11, 0, 1), GONE);
        Edge.refused(day, "STATE, FULL", x -> x.sell(5, 42, 10, 11, 0, 1), STATE);
        Edge.refused(day, "FULL", x -> x.sell(5, 44, 10, 0, 0, 1), FULL);
    }

    /** Each call of the face with -1 for all its numbers. */
    private static void refusalsOfAllNumbers() {
        Edge.of("Terms", "they change nothing but what is told");
        Edge.refused("race", x -> x.race(-1), OUTSIDE);
        Edge.refused("pool", x -> x.pool(-1, -1, -1, -1), UNKNOWN);
        Edge.refused("twin", x -> x.twin(-1, -1, -1, -1), UNKNOWN);
        Edge.refused("substitute", x -> x.substitute(-1, -1), UNKNOWN);
        Edge.refused("scratch", x -> x.scratch(-1, -1), UNKNOWN);
        Edge.refused("place", x -> x.place(-1, -1, -1), UNKNOWN);
        Edge.refused("raceAt", x -> x.raceAt(-1, -1), UNKNOWN);
        Edge.refused("sell", x -> x.sell(-1, -1, -1, -1, -1, -1), UNKNOWN);
        Edge.refused("ticket", x -> x.ticket(-1, -1), UNKNOWN);
        Edge.refused("units", x -> x.units(-1, -1, -1, -1), UNKNOWN);
        Edge.refused("dividend", x -> x.dividend(-1, -1, -1, -1), UNKNOWN);
        Edge.refused("odds", x -> x.odds(-1, -1, -1, -1), UNKNOWN);
        Edge.refused("book", x -> x.book(-1, -1), UNKNOWN);
        Edge.refused("drawer", x -> x.drawer(-1, -1), UNKNOWN);
        Edge.refused("keep", x -> x.keep(-1, -1, -1), UNKNOWN);
        Edge.refused("note", x -> x.note(-1, -1, -1L, -1), UNKNOWN);
        Edge.refused("coins", x -> x.coins(-1, -1, -1), UNKNOWN);
        Edge.refused("clear", x -> x.clear(-1, -1), UNKNOWN);
        Edge.refused("kind", x -> x.kind(-1, -1), UNKNOWN);
        Edge.refused("read", x -> x.read(-1, -1), UNKNOWN);
        Edge.refused("letter", x -> x.letter(-1, -1, -1), UNKNOWN);
        Edge.refused("coin", x -> x.coin(-1, -1, -1, -1), UNKNOWN);
        Edge.refusedByZero("coinAt", x -> x.coinAt(-1, -1, -1), 0);
        Edge.refusedByZero("change", x -> x.change(-1, -1, -1, -1), 0);
        Edge.refused("satchel", x -> x.satchel(-1, -1, -1), UNKNOWN);
        Edge.refused("gather", x -> x.gather(-1, -1, -1, -1, -1), UNKNOWN);
        Edge.refused("shift", x -> x.shift(-1, -1, -1, -1, -1), UNKNOWN);
        Edge.refused("held", x -> x.held(-1, -1), UNKNOWN);
        Edge.refused("lap", x -> x.lap(-1, -1), UNKNOWN);
        Edge.refusedByZero("lapAt", x -> x.lapAt(-1, -1), 0);
        Edge.refusedByZero("pace", x -> x.pace(-1, -1), 0);
        Edge.refusedByZero("remainder", x -> x.remainder(-1, -1, -1), 0);
        Edge.refused("count", x -> x.count(-1), OUTSIDE);
    }

    private static void refusalsOfNumbers() {
        Edge.of("Terms", "Numbers of RACES, POOLS, TICKETS that are none: UNKNOWN");
        Edge.refused("RACE 4 of four", x -> x.off(4), UNKNOWN);
        Edge.refused("POOL 12, of a RACE that has none", x -> x.book(12, 0), UNKNOWN);
        Edge.refused("TICKET 15 of fifteen", x -> x.pay(15), UNKNOWN);
        Edge.of("Terms", "a RUNNER that is none, what does not count and is not 0: OUTSIDE");
        Edge.refused("RUNNER 0", x -> x.units(4, 0, 0, 0), OUTSIDE);
        Edge.refused("RUNNER 6 of five", x -> x.units(4, 6, 0, 0), OUTSIDE);
        Edge.refused("b of WIN, a RUNNER", x -> x.units(4, 1, 2, 0), OUTSIDE);
        Edge.refused("b of WIN, the same RUNNER", x -> x.units(4, 1, 1, 0), OUTSIDE);
        Edge.refused("c of THE DOUBLE", x -> x.units(48, 1, 2, 3), OUTSIDE);
    }
}
