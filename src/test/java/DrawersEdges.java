/** Boundary cases of promises 24 to 35: drawers. */
final class DrawersEdges {
    private static final int NONE = ToteHouse.NONE, UNKNOWN = ToteHouse.UNKNOWN, OUTSIDE = ToteHouse.OUTSIDE;
    private static final int NULL = -11, INDEX = -12, CAST = -13, SIZE = -15;
    private static final int LEAST = Edge.LEAST, GREATEST = Edge.GREATEST;
    private static final int[] NO_WINDOWS = {-1, 6, LEAST, GREATEST};
    /** Of WINDOW 0 on the mixed day, which has five. */
    private static final int[] NO_SLIPS = {-1, 5, 12, LEAST, GREATEST};
    /** The SLIPS of WINDOW 0; WINDOW 1 has a DRAWER without SLIPS, the DRAWER of WINDOW 2 is LOST. */
    private static final int TICKET = 0, NOTE = 1, ROW = 2, NOTHING = 3;

    /** A call about a SLIP. */
    private interface OfSlip {
        long on(ToteHouse x, int window, int i);
    }

    private DrawersEdges() {
    }

    static void all() {
        drawer();
        lose();
        keep();
        note();
        noteRefusals();
        coins();
        coinsRefusals();
        clear();
        kind();
        read();
        letter();
        coin();
        coinAt();
        change();
        changeRefusals();
    }

    private static void due(String edge, long got, long want) {
        Edge.due(edge, got, want);
    }

    /** UNKNOWN, then NULL, then INDEX, each ahead of what the SLIP holds. */
    private static void refusesSlips(int promise, String unknown, String found, OfSlip call) {
        Edge.of(promise, unknown);
        for (int window : NO_WINDOWS) {
            Edge.refused("window " + window, x -> call.on(x, window, TICKET), UNKNOWN);
            Edge.refused("window " + window + ", no SLIP either", x -> call.on(x, window, -1), UNKNOWN);
        }
        Edge.of(promise, found);
        Edge.refused("LOST at first", x -> call.on(x, 2, 0), NULL);
        Edge.refused("LOST, and no SLIP", x -> call.on(x, 5, -1), NULL);
        Edge.refused("SLIP 0 of none", x -> call.on(x, 1, 0), INDEX);
        for (int i : NO_SLIPS) {
            Edge.refused("SLIP " + i + " of five", x -> call.on(x, 0, i), INDEX);
        }
    }

    private static void drawer() {
        Edge.of(24, "A new DRAWER of n SLIPS at a WINDOW: n");
        ToteHouse x = Days.mixed();
        due("none, at WINDOW 0", x.drawer(0, 0), 0);
        due("no SLIP", x.kind(0, 0), INDEX);
        due("one, where there were five", x.drawer(0, 1), 1);
        due("it holds NOTHING", x.kind(0, TICKET), NONE);
        due("twelve, at WINDOW 5", x.drawer(5, 12), 12);
        due("the last one", x.kind(5, 11), NONE);
        due("none behind it", x.kind(5, 12), INDEX);
        Edge.of(24, "UNKNOWN");
        for (int window : NO_WINDOWS) {
            Edge.refused("window " + window, y -> y.drawer(window, 1), UNKNOWN);
        }
        Edge.of(24, "UNKNOWN; OUTSIDE");
        Edge.refused("no WINDOW, n 13", y -> y.drawer(6, 13), UNKNOWN);
        Edge.refused("no WINDOW, n -1", y -> y.drawer(6, -1), UNKNOWN);
        Edge.of(24, "OUTSIDE: n is above 12");
        for (int n : new int[] {13, 14, GREATEST}) {
            Edge.refused("n " + n, y -> y.drawer(0, n), OUTSIDE);
        }
        Edge.of(24, "SIZE");
        for (int n : new int[] {-1, -2, LEAST}) {
            Edge.refused("n " + n, y -> y.drawer(0, n), SIZE);
            Edge.refused("n " + n + ", LOST", y -> y.drawer(2, n), SIZE);
        }
    }

    private static void lose() {
        Edge.of(25, "A DRAWER is LOST: how many SLIPS it had");
        ToteHouse x = Days.mixed();
        x.drawer(5, 12);
        due("the most", x.lose(5), 12);
        due("five", x.lose(0), 5);
        due("none", x.lose(1), 0);
        due("LOST", x.kind(1, 0), NULL);
        Edge.of(25, "UNKNOWN");
        for (int window : NO_WINDOWS) {
            Edge.refused("window " + window, y -> y.lose(window), UNKNOWN);
        }
        Edge.of(25, "NULL");
        Edge.refused("LOST at first", y -> y.lose(2), NULL);
        due("LOST twice", x.lose(1), NULL);
    }

    private static void keep() {
        Edge.of(26, "A SLIP holds a TICKET (whatever it held): 1");
        ToteHouse x = Days.mixed();
        for (int i = 0; i < 5; i++) {
            due("SLIP " + i, x.keep(0, i, 14 - i), 1);
            due("SLIP " + i + " holds it", x.read(0, i), 14 - i);
        }
        due("TICKET 0, which is PAID", x.keep(0, 0, 0), 1);
        refusesSlips(26, "UNKNOWN: WINDOW", "NULL; INDEX", (y, window, i) -> y.keep(window, i, 0));
        Edge.of(26, "UNKNOWN: WINDOW, TICKET");
        for (int ticket : new int[] {-1, 15, 200, LEAST, GREATEST}) {
            Edge.refused("ticket " + ticket, y -> y.keep(0, 0, ticket), UNKNOWN);
        }
        Edge.of(26, "TICKET; NULL");
        Edge.refused("no TICKET, and LOST", y -> y.keep(2, 0, 15), UNKNOWN);
        Edge.refused("no TICKET, and no SLIP", y -> y.keep(0, 5, 15), UNKNOWN);
    }

    private static void note() {
        Edge.of(27, "A SLIP holds a NOTE of n CHARS (1 .. 4)");
        for (int n = 1; n <= 4; n++) {
            ToteHouse x = Days.mixed();
            due("n " + n, x.note(0, TICKET, -1L, n), n);
            due("n " + n + ", the last one", x.letter(0, TICKET, n - 1), 65535);
            due("n " + n + ", none behind it", x.letter(0, TICKET, n), INDEX);
        }
        for (int n : new int[] {0, 5, -1, LEAST, GREATEST}) {
            Edge.refused("n " + n, y -> y.note(0, TICKET, 1L, n), OUTSIDE);
        }
        Edge.of(27, "16 bits of letters each, the highest of the lowest 16 n first: n");
        long letters = 0x8001FFFF00007FFEL;
        int[] all = {0x8001, 0xFFFF, 0, 0x7FFE};
        for (int n = 1; n <= 4; n++) {
            ToteHouse x = Days.mixed();
            x.note(0, NOTHING, letters, n);
            for (int k = 0; k < n; k++) {
                due("n " + n + ", CHAR " + k, x.letter(0, NOTHING, k), all[4 - n + k]);
            }
        }
        ToteHouse y = Days.mixed();
        y.note(0, ROW, Long.MIN_VALUE, 4);
        due("the least long, CHAR 0", y.letter(0, ROW, 0), 0x8000);
        due("the least long, CHAR 3", y.letter(0, ROW, 3), 0);
        y.note(0, ROW, Long.MAX_VALUE, 4);
        due("the greatest long, CHAR 0", y.letter(0, ROW, 0), 0x7FFF);
    }

    private static void noteRefusals() {
        refusesSlips(27, "UNKNOWN", "NULL; INDEX", (y, window, i) -> y.note(window, i, 1L, 1));
        Edge.of(27, "UNKNOWN; OUTSIDE");
        Edge.refused("no WINDOW, n 5", y -> y.note(6, 0, 1L, 5), UNKNOWN);
        Edge.of(27, "OUTSIDE; NULL");
        Edge.refused("n 0, and LOST", y -> y.note(2, 0, 1L, 0), OUTSIDE);
        Edge.refused("n 5, and no SLIP", y -> y.note(0, 5, 1L, 5), OUTSIDE);
    }

    private static void coins() {
        Edge.of(28, "A SLIP holds a ROW of n COINS, each 0: n");
        ToteHouse x = Days.mixed();
        due("n 8, the most, where a NOTE was", x.coins(0, NOTE, 8), 8);
        for (int k = 0; k < 8; k++) {
            due("COIN " + k, x.coinAt(0, NOTE, k), 0);
        }
        due("no FINDING by these", x.finding(), 1);
        due("no COIN 8", x.coin(0, NOTE, 8, 1), INDEX);
        due("n 3, where COINS were", x.coins(0, ROW, 3), 3);
        due("COIN 0 was 7", x.coinAt(0, ROW, 0), 0);
        due("n 0", x.coins(0, ROW, 0), 0);
        due("a ROW without COINS is a ROW", x.kind(0, ROW), 6);
        due("no COIN 0", x.coin(0, ROW, 0, 1), INDEX);
        Edge.of(28, "OUTSIDE: n is above 8");
        for (int n : new int[] {9, 10, GREATEST}) {
            Edge.refused("n " + n, y -> y.coins(0, TICKET, n), OUTSIDE);
        }
    }

    private static void coinsRefusals() {
        refusesSlips(28, "UNKNOWN", "NULL; INDEX", (y, window, i) -> y.coins(window, i, 1));
        Edge.of(28, "UNKNOWN; OUTSIDE");
        Edge.refused("no WINDOW, n 9", y -> y.coins(6, 0, 9), UNKNOWN);
        Edge.of(28, "n is above 8; NULL");
        Edge.refused("n 9, and LOST", y -> y.coins(2, 0, 9), OUTSIDE);
        Edge.of(28, "INDEX; SIZE");
        Edge.refused("n -1", y -> y.coins(0, TICKET, -1), SIZE);
        Edge.refused("the least n", y -> y.coins(0, TICKET, LEAST), SIZE);
        Edge.refused("n -1, and LOST", y -> y.coins(2, 0, -1), NULL);
        Edge.refused("n -1, and no SLIP", y -> y.coins(0, 5, -1), INDEX);
    }

    private static void clear() {
        Edge.of(29, "A SLIP holds NOTHING: what kind() told");
        ToteHouse x = Days.mixed();
        int[] want = {0, 5, 6, NONE, 3};
        for (int i = 0; i < 5; i++) {
            due("SLIP " + i, x.clear(0, i), want[i]);
            due("SLIP " + i + ", NOTHING", x.kind(0, i), NONE);
        }
        due("NOTHING is no FINDING here", x.count(11), 1);
        refusesSlips(29, "UNKNOWN", "NULL (the DRAWER); INDEX", ToteHouse::clear);
    }

    private static void kind() {
        Edge.of(30, "NONE NOTHING, 0 .. 4 a TICKET of that KIND, 5 a NOTE, 6 a ROW");
        Edge.asked("NOTHING", y -> y.kind(0, NOTHING), NONE);
        Edge.asked("a NOTE", y -> y.kind(0, NOTE), 5);
        Edge.asked("a ROW", y -> y.kind(0, ROW), 6);
        int[] ofKind = {4, 6, 7, 8, 9};
        for (int kind = 0; kind <= 4; kind++) {
            ToteHouse x = Days.mixed();
            x.keep(0, NOTHING, ofKind[kind]);
            due("a TICKET of KIND " + kind, x.kind(0, NOTHING), kind);
        }
        refusesSlips(30, "UNKNOWN", "NULL (the DRAWER); INDEX", ToteHouse::kind);
    }

    private static void read() {
        Edge.of(31, "The number of the TICKET that a SLIP holds");
        Edge.asked("4", y -> y.read(0, TICKET), 4);
        Edge.asked("8, of the last SLIP", y -> y.read(0, 4), 8);
        refusesSlips(31, "UNKNOWN", "NULL; INDEX", ToteHouse::read);
        Edge.of(31, "INDEX; NULL; CAST");
        Edge.refused("NOTHING", y -> y.read(0, NOTHING), NULL);
        Edge.refused("a NOTE", y -> y.read(0, NOTE), CAST);
        Edge.refused("a ROW", y -> y.read(0, ROW), CAST);
    }

    private static void letter() {
        Edge.of(32, "CHAR k of a NOTE (0 .. 65535)");
        Edge.asked("the first", y -> y.letter(0, NOTE, 0), 0x41);
        Edge.asked("the last", y -> y.letter(0, NOTE, 1), 0x42);
        ToteHouse x = Days.mixed();
        x.note(0, NOTHING, 0x0000FFFFL, 2);
        due("0", x.letter(0, NOTHING, 0), 0);
        due("65535", x.letter(0, NOTHING, 1), 65535);
        refusesSlips(32, "UNKNOWN", "NULL; INDEX", (y, window, i) -> y.letter(window, i, -1));
        Edge.of(32, "INDEX; NULL, CAST");
        Edge.refused("NOTHING, and no CHAR", y -> y.letter(0, NOTHING, -1), NULL);
        Edge.refused("a TICKET, and no CHAR", y -> y.letter(0, TICKET, -1), CAST);
        Edge.refused("a ROW", y -> y.letter(0, ROW, 0), CAST);
        Edge.of(32, "CAST; INDEX");
        for (int k : new int[] {-1, 2, 4, LEAST, GREATEST}) {
            Edge.refused("CHAR " + k + " of two", y -> y.letter(0, NOTE, k), INDEX);
        }
    }

    private static void coin() {
        Edge.of(33, "COIN k becomes v: 1");
        ToteHouse x = Days.mixed();
        due("the first one the least int", x.coin(0, ROW, 0, LEAST), 1);
        due("the last one the greatest", x.coin(0, ROW, 2, GREATEST), 1);
        due("the first", x.coinAt(0, ROW, 0), LEAST);
        due("the one between as it was", x.coinAt(0, ROW, 1), -2);
        due("the last", x.coinAt(0, ROW, 2), GREATEST);
        refusesSlips(33, "UNKNOWN", "NULL; INDEX", (y, window, i) -> y.coin(window, i, -1, 5));
        Edge.of(33, "INDEX; NULL, CAST");
        Edge.refused("NOTHING, and no COIN", y -> y.coin(0, NOTHING, -1, 5), NULL);
        Edge.refused("a TICKET, and no COIN", y -> y.coin(0, TICKET, -1, 5), CAST);
        Edge.refused("a NOTE", y -> y.coin(0, NOTE, 0, 5), CAST);
        Edge.of(33, "CAST; INDEX");
        for (int k : new int[] {-1, 3, 8, LEAST, GREATEST}) {
            Edge.refused("COIN " + k + " of three", y -> y.coin(0, ROW, k, 5), INDEX);
        }
    }

    private static void coinAt() {
        Edge.of(34, "COIN k");
        Edge.asked("the first", y -> y.coinAt(0, ROW, 0), 7);
        Edge.asked("the last, no FINDING though it is 0", y -> y.coinAt(0, ROW, 2), 0);
        Edge.of(34, "0: UNKNOWN, FINDINGS as coin()");
        for (int window : NO_WINDOWS) {
            Edge.refusedByZero("window " + window, y -> y.coinAt(window, ROW, 0), 0);
        }
        Edge.refusedByZero("LOST, and no SLIP", y -> y.coinAt(2, -1, 0), 1);
        Edge.refusedByZero("SLIP 0 of none", y -> y.coinAt(1, 0, 0), 2);
        for (int i : NO_SLIPS) {
            Edge.refusedByZero("SLIP " + i + " of five", y -> y.coinAt(0, i, 0), 2);
        }
        Edge.refusedByZero("NOTHING, and no COIN", y -> y.coinAt(0, NOTHING, -1), 1);
        Edge.refusedByZero("a TICKET, and no COIN", y -> y.coinAt(0, TICKET, -1), 3);
        Edge.refusedByZero("a NOTE", y -> y.coinAt(0, NOTE, 0), 3);
        for (int k : new int[] {-1, 3, 8, LEAST, GREATEST}) {
            Edge.refusedByZero("COIN " + k + " of three", y -> y.coinAt(0, ROW, k), 2);
        }
    }

    private static int changed(int coin, int by) {
        ToteHouse x = Days.mixed();
        x.coin(0, ROW, 0, coin);
        x.coin(0, ROW, 2, by);
        return x.change(0, ROW, 0, 2);
    }

    private static void change() {
        Edge.of(35, "cut toward 0");
        Edge.asked("7 by -2", y -> y.change(0, ROW, 0, 1), -3);
        due("-7 by 2", changed(-7, 2), -3);
        due("-7 by -2", changed(-7, -2), 3);
        due("1 by 2", changed(1, 2), 0);
        due("-1 by 2", changed(-1, 2), 0);
        due("0 by -5", changed(0, -5), 0);
        Edge.asked("by itself", y -> y.change(0, ROW, 1, 1), 1);
        Edge.of(35, "the least int by -1 is itself");
        due("by -1", changed(LEAST, -1), LEAST);
        due("by 1", changed(LEAST, 1), LEAST);
        due("by itself", changed(LEAST, LEAST), 1);
        due("the next one by -1", changed(LEAST + 1, -1), GREATEST);
        due("the greatest by -1", changed(GREATEST, -1), -GREATEST);
        Edge.of(35, "ZERO");
        Edge.refusedByZero("7 by 0", y -> y.change(0, ROW, 0, 2), 6);
        Edge.refusedByZero("0 by 0", y -> y.change(0, ROW, 2, 2), 6);
    }

    private static void changeRefusals() {
        Edge.of(35, "0: UNKNOWN, FINDINGS as coin()");
        for (int window : NO_WINDOWS) {
            Edge.refusedByZero("window " + window, y -> y.change(window, ROW, 0, 1), 0);
        }
        Edge.refusedByZero("LOST, and no SLIP", y -> y.change(2, -1, 0, 1), 1);
        Edge.refusedByZero("SLIP 0 of none", y -> y.change(1, 0, 0, 1), 2);
        for (int i : NO_SLIPS) {
            Edge.refusedByZero("SLIP " + i + " of five", y -> y.change(0, i, 0, 1), 2);
        }
        Edge.refusedByZero("NOTHING, and no COINS", y -> y.change(0, NOTHING, -1, -1), 1);
        Edge.refusedByZero("a TICKET, and no COINS", y -> y.change(0, TICKET, -1, -1), 3);
        Edge.refusedByZero("a NOTE", y -> y.change(0, NOTE, 0, 0), 3);
        Edge.of(35, "of k ahead of l; ZERO");
        for (int k : new int[] {-1, 3, 8, LEAST, GREATEST}) {
            Edge.refusedByZero("COIN " + k + " of three by one of 0", y -> y.change(0, ROW, k, 2), 2);
            Edge.refusedByZero("by COIN " + k + " of three", y -> y.change(0, ROW, 0, k), 2);
            Edge.refusedByZero("COIN " + k + " by itself, once", y -> y.change(0, ROW, k, k), 2);
        }
    }
}
