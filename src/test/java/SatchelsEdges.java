/** Boundary cases of promises 36 to 41: satchels. */
final class SatchelsEdges {
    private static final int NONE = ToteHouse.NONE, UNKNOWN = ToteHouse.UNKNOWN, OUTSIDE = ToteHouse.OUTSIDE;
    private static final int NULL = -11, INDEX = -12, STORE = -14, SIZE = -15;
    private static final int LEAST = Edge.LEAST, GREATEST = Edge.GREATEST;
    private static final int[] NO_SATCHELS = {-1, 4, LEAST, GREATEST};
    /** On the mixed day SATCHEL 0 takes all (four places, TICKET 8 at 1), 1 takes WIN (three), 2 has no places; no 3. */
    private static final int ALL = 0, WINS = 1, EMPTY = 2, MISSING = 3;
    /** SLIPS of WINDOW 0 then; WINDOW 1 has no SLIPS, the DRAWER of WINDOW 2 is LOST. */
    private static final int WIN_TICKET = 0, NOTE = 1, ROW = 2, NOTHING = 3, ORDER_TICKET = 4;

    private SatchelsEdges() {
    }

    static void all() {
        satchel();
        satchelRefusals();
        gather();
        gatherUnknownAndOutside();
        gatherFindings();
        gatherOrderOfFindings();
        shift();
        shiftWithinOne();
        shiftUnknownAndOutside();
        shiftFindings();
        came();
        held();
        cash();
    }

    private static void due(String edge, long got, long want) {
        Edge.due(edge, got, want);
    }

    /** Refused at the first one: none came, and nothing else is changed. */
    private static void noneCame(String edge, Edge.Call call, int want) {
        Edge.refused(Days.after(Days::mixed, x -> x.gather(ALL, 0, 0, 0, 0)), edge, call, want);
    }

    private static void satchel() {
        Edge.of(36, "SATCHEL s (0 .. 3) is a new one of a FORM 0 .. 5 with n places: n");
        ToteHouse x = Days.mixed();
        due("0, FORM 0, no places", x.satchel(0, 0, 0), 0);
        due("it has none", x.held(0, 0), INDEX);
        due("3, FORM 5, ten places", x.satchel(3, 5, 10), 10);
        due("the last one has NOTHING", x.held(3, 9), NONE);
        due("there is no place 10", x.held(3, 10), INDEX);
        x.satchel(0, 0, 2);
        x.gather(0, 0, 0, ORDER_TICKET, 1);
        due("a new one in its stead", x.satchel(0, 0, 2), 2);
        due("has NOTHING", x.held(0, 0), NONE);
    }

    private static void satchelRefusals() {
        Edge.of(36, "UNKNOWN");
        for (int s : NO_SATCHELS) {
            Edge.refused("satchel " + s, y -> y.satchel(s, 0, 1), UNKNOWN);
        }
        Edge.of(36, "UNKNOWN; OUTSIDE");
        Edge.refused("no SATCHEL, no FORM", y -> y.satchel(4, 6, 1), UNKNOWN);
        Edge.refused("no SATCHEL, n -1", y -> y.satchel(4, 0, -1), UNKNOWN);
        Edge.of(36, "OUTSIDE: the FORM");
        for (int form : new int[] {-1, 6, LEAST, GREATEST}) {
            Edge.refused("form " + form, y -> y.satchel(ALL, form, 1), OUTSIDE);
        }
        Edge.of(36, "n is above 10");
        for (int n : new int[] {11, 12, GREATEST}) {
            Edge.refused("n " + n, y -> y.satchel(ALL, 0, n), OUTSIDE);
        }
        Edge.of(36, "SIZE");
        for (int n : new int[] {-1, -2, LEAST}) {
            Edge.refused("n " + n, y -> y.satchel(ALL, 0, n), SIZE);
            Edge.refused("n " + n + ", where there is none", y -> y.satchel(MISSING, 0, n), SIZE);
        }
        Edge.of(36, "n is above 10; SIZE");
        Edge.refused("no FORM, n -1", y -> y.satchel(ALL, 6, -1), OUTSIDE);
    }

    private static void gather() {
        Edge.of(37, "What n SLIPS (0 .. 12) of a WINDOW hold, from SLIP i on, comes into SATCHEL s, too");
        ToteHouse x = Days.mixed();
        due("one, the first SLIP to the first place", x.gather(ALL, 0, 0, WIN_TICKET, 1), 1);
        due("it is there", x.held(ALL, 0), 4);
        due("one, the last SLIP to the last place", x.gather(ALL, 3, 0, ORDER_TICKET, 1), 1);
        due("it is there, too", x.held(ALL, 3), 8);
        due("in the SLIP as well", x.read(0, ORDER_TICKET), 8);
        due("NOTHING where a TICKET was", x.gather(ALL, 0, 0, NOTHING, 1), 1);
        due("NOTHING", x.held(ALL, 0), NONE);
        due("none", x.gather(ALL, 0, 0, 0, 0), 0);
        x.satchel(MISSING, 0, 10);
        x.drawer(5, 12);
        for (int i = 0; i < 12; i++) {
            x.keep(5, i, i);
        }
        due("ten, of twelve SLIPS the last", x.gather(MISSING, 0, 5, 2, 10), 10);
        for (int place = 0; place < 10; place++) {
            due("place " + place, x.held(MISSING, place), place + 2);
        }
        due("twelve are two too many", x.gather(MISSING, 0, 5, 0, 12), INDEX);
        due("ten of them came", x.came(), 10);
        due("the last that came", x.held(MISSING, 9), 9);
    }

    private static void gatherUnknownAndOutside() {
        Edge.of(37, "UNKNOWN: SATCHEL, WINDOW");
        for (int s : NO_SATCHELS) {
            Edge.refused("satchel " + s, y -> y.gather(s, 0, 0, 0, 1), UNKNOWN);
        }
        for (int window : new int[] {-1, 6, LEAST, GREATEST}) {
            Edge.refused("window " + window, y -> y.gather(ALL, 0, window, 0, 1), UNKNOWN);
        }
        Edge.of(37, "UNKNOWN: SATCHEL, WINDOW; OUTSIDE: n");
        Edge.refused("no SATCHEL, n 13", y -> y.gather(4, 0, 0, 0, 13), UNKNOWN);
        Edge.refused("no WINDOW, n -1", y -> y.gather(ALL, 0, 6, 0, -1), UNKNOWN);
        Edge.of(37, "OUTSIDE: n");
        for (int n : new int[] {-1, 13, LEAST, GREATEST}) {
            Edge.refused("n " + n, y -> y.gather(ALL, 0, 0, 0, n), OUTSIDE);
        }
        Edge.refused("n 13, and LOST", y -> y.gather(ALL, 0, 2, 0, 13), OUTSIDE);
        Edge.of(37, "of each one: NULL, INDEX (the SLIP)");
        due("of none: LOST, no SATCHEL", Days.mixed().gather(MISSING, -1, 2, -1, 0), 0);
    }

    private static void gatherFindings() {
        Edge.of(37, "NULL, INDEX (the SLIP), NULL (the SATCHEL), INDEX (the place), STORE");
        noneCame("LOST", y -> y.gather(ALL, 0, 2, 0, 1), NULL);
        noneCame("no SLIPS", y -> y.gather(ALL, 0, 1, 0, 1), INDEX);
        for (int i : new int[] {-1, 5, LEAST, GREATEST}) {
            noneCame("SLIP " + i, y -> y.gather(ALL, 0, 0, i, 2), INDEX);
        }
        noneCame("no SATCHEL", y -> y.gather(MISSING, 0, 0, 0, 1), NULL);
        noneCame("a SATCHEL without places", y -> y.gather(EMPTY, 0, 0, ORDER_TICKET, 1), INDEX);
        for (int at : new int[] {-1, 4, LEAST, GREATEST}) {
            noneCame("place " + at, y -> y.gather(ALL, at, 0, 0, 2), INDEX);
        }
        noneCame("a NOTE", y -> y.gather(ALL, 0, 0, NOTE, 1), STORE);
        noneCame("a ROW", y -> y.gather(ALL, 0, 0, ROW, 1), STORE);
        noneCame("ORDER into one for WIN", y -> y.gather(WINS, 0, 0, ORDER_TICKET, 1), STORE);
        Edge.of(37, "those ahead of one with a FINDING are there");
        ToteHouse x = Days.mixed();
        due("a NOTE is the second", x.gather(WINS, 1, 0, WIN_TICKET, 3), STORE);
        due("one came", x.came(), 1);
        due("the first is there", x.held(WINS, 1), 4);
        due("none of those behind it", x.held(WINS, 2), NONE);
        due("places end ahead of the second", x.gather(ALL, 3, 0, NOTHING, 2), INDEX);
        due("one came there", x.came(), 1);
        due("SLIPS end ahead of the second", x.gather(ALL, 0, 0, ORDER_TICKET, 2), INDEX);
        due("that came", x.held(ALL, 0), 8);
    }

    private static void gatherOrderOfFindings() {
        Edge.of(37, "NULL, INDEX (the SLIP), NULL (the SATCHEL)");
        noneCame("LOST, no SLIP, no SATCHEL", y -> y.gather(MISSING, -1, 2, -1, 1), NULL);
        noneCame("no SLIP, no SATCHEL", y -> y.gather(MISSING, 0, 0, 5, 1), INDEX);
        Edge.of(37, "NULL (the SATCHEL), INDEX (the place), STORE");
        noneCame("no SATCHEL, no place, a NOTE", y -> y.gather(MISSING, -1, 0, NOTE, 1), NULL);
        noneCame("no place, a NOTE", y -> y.gather(ALL, 4, 0, NOTE, 1), INDEX);
        noneCame("no place, ORDER into one for WIN", y -> y.gather(WINS, 3, 0, ORDER_TICKET, 1), INDEX);
    }

    private static void shift() {
        Edge.of(38, "What n places (0 .. 10) of SATCHEL s have, from i on, as they were, comes to SATCHEL t, too");
        ToteHouse x = Days.mixed();
        x.satchel(MISSING, 0, 10);
        due("one, to the first place", x.shift(ALL, 1, MISSING, 0, 1), 1);
        due("it is there", x.held(MISSING, 0), 8);
        due("in the other as well", x.held(ALL, 1), 8);
        due("one, to the last place", x.shift(ALL, 1, MISSING, 9, 1), 1);
        due("it is there, too", x.held(MISSING, 9), 8);
        due("none", x.shift(ALL, -1, MISSING, 10, 0), 0);
        due("NOTHING, of the last place, where a TICKET was", x.shift(ALL, 3, MISSING, 0, 1), 1);
        due("NOTHING", x.held(MISSING, 0), NONE);
        x.satchel(ALL, 0, 10);
        due("ten, the most", x.shift(MISSING, 0, ALL, 0, 10), 10);
        due("the last one of them", x.held(ALL, 9), 8);
    }

    /** TICKETS 0 to 4 at the five places of SATCHEL 0. */
    private static ToteHouse ofFive() {
        ToteHouse x = Days.mixed();
        x.satchel(ALL, 0, 5);
        for (int i = 0; i < 5; i++) {
            x.keep(0, i, i);
        }
        x.gather(ALL, 0, 0, 0, 5);
        return x;
    }

    private static void holds(String edge, ToteHouse x, int... want) {
        for (int place = 0; place < want.length; place++) {
            due(edge + ", place " + place, x.held(ALL, place), want[place]);
        }
    }

    private static void shiftWithinOne() {
        Edge.of(38, "as they were, comes to SATCHEL t, too (perhaps s itself)");
        ToteHouse up = ofFive();
        due("one place upward", up.shift(ALL, 0, ALL, 1, 4), 4);
        holds("upward", up, 0, 0, 1, 2, 3);
        ToteHouse down = ofFive();
        due("one place downward", down.shift(ALL, 1, ALL, 0, 4), 4);
        holds("downward", down, 1, 2, 3, 4, 4);
        ToteHouse stay = ofFive();
        due("to where they are", stay.shift(ALL, 0, ALL, 0, 5), 5);
        holds("as before", stay, 0, 1, 2, 3, 4);
        Edge.of(38, "those ahead of one with a FINDING are there");
        ToteHouse over = ofFive();
        due("places end ahead of the third", over.shift(ALL, 0, ALL, 3, 3), INDEX);
        due("two came", over.came(), 2);
        holds("two are there", over, 0, 1, 2, 0, 1);
        due("there is none to come behind two", over.shift(ALL, 3, ALL, 0, 3), INDEX);
        due("two came again", over.came(), 2);
        ToteHouse form = ofFive();
        due("ORDER is the second", form.shift(ALL, 2, WINS, 0, 2), STORE);
        due("ORDER behind two of WIN", form.shift(ALL, 1, WINS, 0, 3), STORE);
        due("two of WIN came", form.came(), 2);
        due("the second of these", form.held(WINS, 1), 2);
        due("the third place as it was", form.held(WINS, 2), NONE);
    }

    private static void shiftUnknownAndOutside() {
        Edge.of(38, "UNKNOWN: s, t");
        for (int s : NO_SATCHELS) {
            Edge.refused("from " + s, y -> y.shift(s, 0, ALL, 0, 1), UNKNOWN);
            Edge.refused("to " + s, y -> y.shift(ALL, 0, s, 0, 1), UNKNOWN);
        }
        Edge.of(38, "UNKNOWN: s, t; OUTSIDE: n");
        Edge.refused("no SATCHEL, n 11", y -> y.shift(4, 0, ALL, 0, 11), UNKNOWN);
        Edge.refused("to none, n -1", y -> y.shift(ALL, 0, 4, 0, -1), UNKNOWN);
        Edge.of(38, "OUTSIDE: n");
        for (int n : new int[] {-1, 11, 12, LEAST, GREATEST}) {
            Edge.refused("n " + n, y -> y.shift(ALL, 0, ALL, 0, n), OUTSIDE);
        }
        Edge.of(38, "OUTSIDE: n; NULL: s, t");
        Edge.refused("n 11, from none", y -> y.shift(MISSING, 0, ALL, 0, 11), OUTSIDE);
    }

    private static void shiftFindings() {
        Edge.of(38, "NULL: s, t");
        noneCame("from none", y -> y.shift(MISSING, 0, ALL, 0, 1), NULL);
        noneCame("to none", y -> y.shift(ALL, 0, MISSING, 0, 1), NULL);
        noneCame("from none to itself", y -> y.shift(MISSING, 0, MISSING, 0, 1), NULL);
        noneCame("from none, and no place", y -> y.shift(MISSING, -1, ALL, -1, 1), NULL);
        noneCame("to none, and no place", y -> y.shift(ALL, 4, MISSING, 0, 1), NULL);
        noneCame("from none, n 0", y -> y.shift(MISSING, 0, ALL, 0, 0), NULL);
        noneCame("to none, n 0", y -> y.shift(ALL, 0, MISSING, 0, 0), NULL);
        Edge.of(38, "of each one: INDEX (of s, then of t), STORE");
        for (int i : new int[] {-1, 4, 10, LEAST, GREATEST}) {
            noneCame("from place " + i, y -> y.shift(ALL, i, ALL, 0, 2), INDEX);
            noneCame("to place " + i, y -> y.shift(ALL, 0, ALL, i, 2), INDEX);
        }
        noneCame("from one without places", y -> y.shift(EMPTY, 0, ALL, 0, 1), INDEX);
        noneCame("to one without places", y -> y.shift(ALL, 0, EMPTY, 0, 1), INDEX);
        noneCame("ORDER to one for WIN", y -> y.shift(ALL, 1, WINS, 0, 1), STORE);
        noneCame("ORDER to a place that is none", y -> y.shift(ALL, 1, WINS, 3, 1), INDEX);
        due("NOTHING to one for WIN", Days.mixed().shift(ALL, 0, WINS, 2, 1), 1);
    }

    private static void came() {
        Edge.of(39, "(0 before)");
        ToteHouse x = new ToteHouse();
        due("before", x.came(), 0);
        x.gather(4, 0, 0, 0, 1);
        x.shift(0, 0, 0, 0, 11);
        due("refused alone", x.came(), 0);
        Edge.of(39, "by the latest gather(), shift() that was not UNKNOWN, OUTSIDE");
        Edge.refused("gather() of no SATCHEL: two still", y -> y.gather(4, 0, 0, 0, 1), UNKNOWN);
        Edge.refused("shift() of n 11: two still", y -> y.shift(ALL, 0, ALL, 0, 11), OUTSIDE);
        ToteHouse z = Days.mixed();
        due("two", z.came(), 2);
        z.gather(ALL, 0, 2, 0, 1);
        due("none by gather() with a FINDING", z.came(), 0);
        z.shift(ALL, 0, ALL, 2, 2);
        due("two by shift()", z.came(), 2);
        z.shift(ALL, 0, MISSING, 0, 1);
        due("none by shift() with a FINDING", z.came(), 0);
        z.shift(ALL, 0, ALL, 3, 2);
        due("one ahead of a FINDING", z.came(), 1);
        z.gather(ALL, 0, 0, 0, 0);
        due("none by gather() of none", z.came(), 0);
    }

    private static void held() {
        Edge.of(40, "The number of the TICKET at a place of a SATCHEL; NONE");
        Edge.asked("TICKET 8", y -> y.held(ALL, 1), 8);
        Edge.asked("NOTHING", y -> y.held(ALL, 0), NONE);
        Edge.asked("NOTHING, the last place", y -> y.held(ALL, 3), NONE);
        Edge.of(40, "UNKNOWN");
        for (int s : NO_SATCHELS) {
            Edge.refused("satchel " + s, y -> y.held(s, 0), UNKNOWN);
            Edge.refused("satchel " + s + ", no place", y -> y.held(s, -1), UNKNOWN);
        }
        Edge.of(40, "NULL; INDEX");
        Edge.refused("none, and no place", y -> y.held(MISSING, -1), NULL);
        Edge.refused("no places", y -> y.held(EMPTY, 0), INDEX);
        for (int place : new int[] {-1, 4, 10, LEAST, GREATEST}) {
            Edge.refused("place " + place + " of four", y -> y.held(ALL, place), INDEX);
        }
    }

    private static void cash() {
        Edge.of(41, "those that can not be (NOTHING, too) passed over: what they get together");
        Edge.asked("NOTHING, and one whose POOL is not SETTLED", y -> y.cash(ALL), 0);
        Edge.asked("NOTHING alone", y -> y.cash(WINS), 0);
        Edge.asked("no places", y -> y.cash(EMPTY), 0);
        ToteHouse x = ofFive();
        due("PAID, did not WIN, 30, CARRIED OUT, not SETTLED", x.cash(ALL), 30);
        int[] state = {3, 3, 3, 3, 0};
        for (int t = 0; t < 5; t++) {
            due("state of TICKET " + t, x.ticket(t, 5), state[t]);
        }
        due("all are PAID now", x.cash(ALL), 0);
        ToteHouse twice = ofFive();
        twice.shift(ALL, 2, ALL, 4, 1);
        due("one TICKET at two places", twice.cash(ALL), 30);
        for (int place : new int[] {0, 9}) {
            ToteHouse ten = Days.mixed();
            ten.satchel(MISSING, 0, 10);
            ten.keep(0, WIN_TICKET, 2);
            ten.gather(MISSING, place, 0, WIN_TICKET, 1);
            due("one at place " + place + " of ten", ten.cash(MISSING), 30);
        }
        Edge.of(41, "UNKNOWN");
        for (int s : NO_SATCHELS) {
            Edge.refused("satchel " + s, y -> y.cash(s), UNKNOWN);
        }
        Edge.of(41, "NULL");
        Edge.refused("none", y -> y.cash(MISSING), NULL);
    }
}
