/** Promises 24 to 35: drawers. */
public final class DrawersTest {
    private static final int NONE = ToteHouse.NONE, UNKNOWN = ToteHouse.UNKNOWN, OUTSIDE = ToteHouse.OUTSIDE;
    private static final int NULL = -11, INDEX = -12, CAST = -13, SIZE = -15;
    private static final int LEAST = Integer.MIN_VALUE, GREATEST = Integer.MAX_VALUE;

    public static void main(String[] args) {
        drawer();
        lose();
        keep();
        note();
        coins();
        clear();
        kind();
        read();
        letter();
        coin();
        coinAt();
        change();
        lostDrawers();
        Expect.end();
    }

    private static void due(String call, long got, long want) {
        Expect.due(call, got, want);
    }

    /** TICKETS 0 to 4 of KINDS 0 to 4, and a DRAWER of six SLIPS at WINDOW 0: a TICKET, a NOTE, a ROW, NOTHING. */
    private static ToteHouse furnished() {
        ToteHouse x = Days.ofAllKinds(1);
        x.drawer(0, 6);
        x.keep(0, 0, 3);
        x.note(0, 1, 0x0041004200430044L, 4);
        x.coins(0, 2, 3);
        return x;
    }

    private static void drawer() {
        ToteHouse x = new ToteHouse();
        due("24: window 6", x.drawer(6, 1), UNKNOWN);
        due("24: window -1", x.drawer(-1, 1), UNKNOWN);
        due("24: UNKNOWN ahead of SIZE", x.drawer(6, -1), UNKNOWN);
        due("24: 13", x.drawer(0, 13), OUTSIDE);
        due("24: greatest", x.drawer(0, GREATEST), OUTSIDE);
        due("48: these are no FINDINGS", x.finding(), 0);
        due("24: -1", x.drawer(0, -1), SIZE);
        due("24: least", x.drawer(0, LEAST), SIZE);
        due("49: SIZE twice", x.count(15), 2);
        due("24: LOST still", x.kind(0, 0), NULL);
        due("24: 0", x.drawer(0, 0), 0);
        due("24: no SLIP", x.kind(0, 0), INDEX);
        due("24: 12", x.drawer(5, 12), 12);
        due("24: the last SLIP", x.kind(5, 11), NONE);
        due("24: no more", x.kind(5, 12), INDEX);
        ToteHouse y = furnished();
        due("24: refused", y.drawer(0, -1), SIZE);
        due("24: nothing is changed", y.kind(0, 0), 3);
        due("24: a new one", y.drawer(0, 2), 2);
        due("24: holds NOTHING", y.kind(0, 0), NONE);
        due("24: holds NOTHING, too", y.kind(0, 1), NONE);
        due("24: has no third", y.kind(0, 2), INDEX);
        due("24: a larger one", y.drawer(0, 6), 6);
        due("24: no SLIP of an earlier one", y.kind(0, 2), NONE);
    }

    private static void lose() {
        ToteHouse x = furnished();
        due("25: window 6", x.lose(6), UNKNOWN);
        due("25: window 1", x.lose(1), NULL);
        due("25: window 0", x.lose(0), 6);
        due("25: twice", x.lose(0), NULL);
        due("25: LOST", x.kind(0, 0), NULL);
        x.drawer(0, 6);
        due("25: a new one holds NOTHING", x.kind(0, 0), NONE);
        x.drawer(1, 0);
        due("25: of no SLIPS", x.lose(1), 0);
    }

    private static void keep() {
        ToteHouse x = furnished();
        due("26: window 6", x.keep(6, 0, 0), UNKNOWN);
        due("26: ticket 5", x.keep(0, 0, 5), UNKNOWN);
        due("26: ticket -1", x.keep(0, 0, -1), UNKNOWN);
        due("26: TICKET ahead of NULL", x.keep(1, 0, 5), UNKNOWN);
        due("26: LOST", x.keep(1, 0, 0), NULL);
        due("26: SLIP 6", x.keep(0, 6, 0), INDEX);
        due("26: SLIP -1", x.keep(0, -1, 0), INDEX);
        for (int i = 0; i < 4; i++) {
            due("26: whatever it held, " + i, x.keep(0, i, 4), 1);
            due("26: it holds it", x.read(0, i), 4);
        }
        x.cancel(1);
        due("26: of any state", x.keep(0, 5, 1), 1);
    }

    private static void note() {
        ToteHouse x = furnished();
        due("27: window -1", x.note(-1, 0, 1L, 1), UNKNOWN);
        due("27: n 0", x.note(0, 0, 1L, 0), OUTSIDE);
        due("27: n 5", x.note(0, 0, 1L, 5), OUTSIDE);
        due("27: n -1, no SIZE", x.note(0, 0, 1L, -1), OUTSIDE);
        due("27: OUTSIDE ahead of NULL", x.note(1, 0, 1L, 5), OUTSIDE);
        due("27: LOST", x.note(1, 0, 1L, 1), NULL);
        due("27: SLIP 6", x.note(0, 6, 1L, 1), INDEX);
        due("27: nothing is changed", x.kind(0, 0), 3);
        due("27: n 2", x.note(0, 0, 0x1111222233334444L, 2), 2);
        due("27: CHAR 0", x.letter(0, 0, 0), 0x3333);
        due("27: CHAR 1", x.letter(0, 0, 1), 0x4444);
        due("27: no CHAR 2", x.letter(0, 0, 2), INDEX);
        due("27: n 4", x.note(0, 5, 0xFFFF800000017FFFL, 4), 4);
        int[] want = {0xFFFF, 0x8000, 1, 0x7FFF};
        for (int k = 0; k < 4; k++) {
            due("27: CHAR " + k, x.letter(0, 5, k), want[k]);
        }
        due("27: n 1", x.note(0, 5, -1L, 1), 1);
        due("27: 65535", x.letter(0, 5, 0), 65535);
        due("27: one alone", x.letter(0, 5, 1), INDEX);
    }

    private static void coins() {
        ToteHouse x = furnished();
        due("28: window 6", x.coins(6, 0, 1), UNKNOWN);
        due("28: n 9", x.coins(0, 0, 9), OUTSIDE);
        due("28: OUTSIDE ahead of NULL", x.coins(1, 0, 9), OUTSIDE);
        due("28: NULL ahead of SIZE", x.coins(1, 0, -1), NULL);
        due("28: INDEX ahead of SIZE", x.coins(0, 6, -1), INDEX);
        due("28: SIZE", x.coins(0, 0, -1), SIZE);
        due("28: least", x.coins(0, 0, LEAST), SIZE);
        due("28: nothing is changed", x.kind(0, 0), 3);
        due("28: n 8", x.coins(0, 1, 8), 8);
        for (int k = 0; k < 8; k++) {
            due("28: each 0, where a NOTE was, too", x.coin(0, 1, k, 9) * 10 + x.coinAt(0, 1, k), 19);
        }
        due("28: no COIN 8", x.coin(0, 1, 8, 1), INDEX);
        due("28: anew", x.coins(0, 1, 8), 8);
        for (int k = 0; k < 8; k++) {
            due("28: 0 again, " + k, x.coinAt(0, 1, k), 0);
        }
        due("28: n 0", x.coins(0, 1, 0), 0);
        due("28: a ROW all the same", x.kind(0, 1), 6);
        due("28: no COIN", x.coin(0, 1, 0, 1), INDEX);
    }

    private static void clear() {
        ToteHouse x = furnished();
        due("29: window 6", x.clear(6, 0), UNKNOWN);
        due("29: LOST", x.clear(1, 0), NULL);
        due("29: SLIP 6", x.clear(0, 6), INDEX);
        due("29: SLIP -1", x.clear(0, -1), INDEX);
        int[] want = {3, 5, 6, NONE};
        for (int i = 0; i < 4; i++) {
            due("29: what kind() told, " + i, x.clear(0, i), want[i]);
            due("29: NOTHING", x.kind(0, i), NONE);
        }
        due("29: NOTHING is no FINDING here", x.count(11), 1);
    }

    private static void kind() {
        ToteHouse x = furnished();
        due("30: window -1", x.kind(-1, 0), UNKNOWN);
        due("30: LOST", x.kind(5, 0), NULL);
        due("30: SLIP 6", x.kind(0, 6), INDEX);
        due("30: SLIP least", x.kind(0, LEAST), INDEX);
        due("30: a NOTE", x.kind(0, 1), 5);
        due("30: a ROW", x.kind(0, 2), 6);
        due("30: NOTHING", x.kind(0, 3), NONE);
        for (int t = 0; t < 5; t++) {
            x.keep(0, 3, t);
            due("30: a TICKET of KIND " + t, x.kind(0, 3), t);
        }
    }

    private static void read() {
        ToteHouse x = furnished();
        due("31: window 6", x.read(6, 0), UNKNOWN);
        due("31: LOST", x.read(1, 0), NULL);
        due("31: SLIP 6", x.read(0, 6), INDEX);
        due("31: NOTHING", x.read(0, 3), NULL);
        due("31: a NOTE", x.read(0, 1), CAST);
        due("31: a ROW", x.read(0, 2), CAST);
        due("31: a TICKET", x.read(0, 0), 3);
        due("48: latest", x.finding(), 3);
        due("49: NULL twice", x.count(11), 2);
        due("49: INDEX once", x.count(12), 1);
        due("49: CAST twice", x.count(13), 2);
    }

    private static void letter() {
        ToteHouse x = furnished();
        due("32: window 6", x.letter(6, 0, 0), UNKNOWN);
        due("32: LOST", x.letter(1, 0, 0), NULL);
        due("32: SLIP 6", x.letter(0, 6, 0), INDEX);
        due("32: NOTHING", x.letter(0, 3, 9), NULL);
        due("32: a TICKET", x.letter(0, 0, 9), CAST);
        due("32: a ROW", x.letter(0, 2, 0), CAST);
        due("32: CHAR 4", x.letter(0, 1, 4), INDEX);
        due("32: CHAR -1", x.letter(0, 1, -1), INDEX);
        for (int k = 0; k < 4; k++) {
            due("32: CHAR " + k, x.letter(0, 1, k), 'A' + k);
        }
    }

    private static void coin() {
        ToteHouse x = furnished();
        due("33: window 6", x.coin(6, 2, 0, 1), UNKNOWN);
        due("33: LOST", x.coin(1, 2, 0, 1), NULL);
        due("33: SLIP 6", x.coin(0, 6, 0, 1), INDEX);
        due("33: NOTHING", x.coin(0, 3, 9, 1), NULL);
        due("33: a TICKET", x.coin(0, 0, 0, 1), CAST);
        due("33: a NOTE", x.coin(0, 1, 0, 1), CAST);
        due("33: the NOTE as it was", x.letter(0, 1, 0), 'A');
        due("33: COIN 3", x.coin(0, 2, 3, 1), INDEX);
        due("33: COIN -1", x.coin(0, 2, -1, 1), INDEX);
        due("33: the least", x.coin(0, 2, 0, LEAST), 1);
        due("33: -7", x.coin(0, 2, 2, -7), 1);
        due("33: COIN 0", x.coinAt(0, 2, 0), LEAST);
        due("33: COIN 1", x.coinAt(0, 2, 1), 0);
        due("33: COIN 2", x.coinAt(0, 2, 2), -7);
    }

    /** A refusal is 0 here; finding() tells which it was. */
    private static void coinAt() {
        ToteHouse x = furnished();
        x.coin(0, 2, 1, 5);
        due("34: COIN 1", x.coinAt(0, 2, 1), 5);
        due("34: window 6", x.coinAt(6, 2, 1), 0);
        due("34: no FINDING", x.finding(), 0);
        due("34: LOST", x.coinAt(1, 2, 1), 0);
        due("34: NULL", x.finding(), 1);
        due("34: SLIP 6", x.coinAt(0, 6, 1), 0);
        due("34: INDEX", x.finding(), 2);
        due("34: NOTHING", x.coinAt(0, 3, 1), 0);
        due("34: NULL again", x.finding(), 1);
        due("34: a TICKET", x.coinAt(0, 0, 1), 0);
        due("34: CAST", x.finding(), 3);
        due("34: COIN 3", x.coinAt(0, 2, 3), 0);
        due("34: INDEX again", x.finding(), 2);
        due("34: two NULL", x.count(11), 2);
        due("34: two INDEX", x.count(12), 2);
        due("34: one CAST", x.count(13), 1);
    }

    private static void change() {
        ToteHouse x = furnished();
        x.coin(0, 2, 0, -7);
        x.coin(0, 2, 1, 2);
        due("35: -7 by 2, cut toward 0", x.change(0, 2, 0, 1), -3);
        due("35: by itself", x.change(0, 2, 0, 0), 1);
        due("35: 2 by -7", x.change(0, 2, 1, 0), 0);
        due("35: no FINDING till now", x.finding(), 0);
        due("35: window -1", x.change(-1, 2, 0, 1), 0);
        due("35: no FINDING", x.finding(), 0);
        due("35: by 0", x.change(0, 2, 0, 2), 0);
        due("35: ZERO", x.finding(), 6);
        due("35: LOST", x.change(1, 2, 0, 1), 0);
        due("35: NULL", x.finding(), 1);
        due("35: SLIP 6", x.change(0, 6, 0, 1), 0);
        due("35: INDEX", x.finding(), 2);
        due("35: a NOTE", x.change(0, 1, 0, 1), 0);
        due("35: CAST", x.finding(), 3);
        due("35: k 3", x.change(0, 2, 3, 2), 0);
        due("35: INDEX of k", x.finding(), 2);
        x.read(1, 0);
        due("35: l 3", x.change(0, 2, 0, 3), 0);
        due("35: INDEX of l", x.finding(), 2);
        due("35: both are one FINDING", x.change(0, 2, 3, 3), 0);
        due("49: INDEX", x.count(12), 4);
        due("49: ZERO", x.count(16), 1);
        x.coin(0, 2, 0, LEAST);
        x.coin(0, 2, 1, -1);
        due("35: the least by -1", x.change(0, 2, 0, 1), LEAST);
        due("35: nothing is changed", x.coinAt(0, 2, 0), LEAST);
    }

    private static void lostDrawers() {
        ToteHouse x = furnished();
        for (int window = 1; window < 6; window++) {
            due("1: LOST at first", x.read(window, 0), NULL);
        }
        x.drawer(3, 2);
        x.keep(3, 1, 2);
        due("26: WINDOW 3", x.read(3, 1), 2);
        due("26: not WINDOW 0", x.kind(0, 1), 5);
    }
}
