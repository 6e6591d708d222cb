/** Promises 36 to 41: satchels. */
public final class SatchelsTest {
    private static final int NONE = ToteHouse.NONE, UNKNOWN = ToteHouse.UNKNOWN, OUTSIDE = ToteHouse.OUTSIDE;
    private static final int NULL = -11, INDEX = -12, STORE = -14, SIZE = -15;
    private static final int LEAST = Integer.MIN_VALUE, GREATEST = Integer.MAX_VALUE;

    public static void main(String[] args) {
        satchel();
        forms();
        gather();
        gatherRefusals();
        gatherInTheOrderOfFindings();
        shift();
        shiftWithinOne();
        shiftRefusals();
        came();
        held();
        cash();
        Expect.end();
    }

    private static void due(String call, long got, long want) {
        Expect.due(call, got, want);
    }

    private static void satchel() {
        ToteHouse x = Days.ofAllSlips();
        due("36: -1", x.satchel(-1, 0, 1), UNKNOWN);
        due("36: 4", x.satchel(4, 0, 1), UNKNOWN);
        due("36: UNKNOWN first", x.satchel(4, 9, -1), UNKNOWN);
        due("36: form -1", x.satchel(0, -1, 1), OUTSIDE);
        due("36: form 6", x.satchel(0, 6, 1), OUTSIDE);
        due("36: n 11", x.satchel(0, 0, 11), OUTSIDE);
        due("36: OUTSIDE ahead of SIZE", x.satchel(0, 6, -1), OUTSIDE);
        due("36: n -1", x.satchel(0, 0, -1), SIZE);
        due("36: n least", x.satchel(0, 0, LEAST), SIZE);
        due("36: none yet", x.held(0, 0), NULL);
        due("36: n 0", x.satchel(0, 0, 0), 0);
        due("36: no place", x.held(0, 0), INDEX);
        due("36: n 10", x.satchel(3, 5, 10), 10);
        due("36: NOTHING", x.held(3, 9), NONE);
        due("36: no more", x.held(3, 10), INDEX);
        x.satchel(1, 0, 3);
        x.gather(1, 0, 0, 0, 3);
        due("36: refused", x.satchel(1, 0, -1), SIZE);
        due("36: nothing is changed", x.held(1, 2), 2);
        due("36: a new one", x.satchel(1, 1, 4), 4);
        due("36: with NOTHING", x.held(1, 2), NONE);
        due("36: of the new FORM", x.gather(1, 0, 0, 2, 1), STORE);
    }

    private static void forms() {
        String[] taken = {"01234", "01", "23", "3", "4", "1"};
        for (int form = 0; form < 6; form++) {
            ToteHouse x = Days.ofAllSlips();
            x.satchel(2, form, 1);
            for (int kind = 0; kind < 5; kind++) {
                boolean takes = taken[form].indexOf('0' + kind) >= 0;
                due("36: FORM " + form + ", KIND " + kind, x.gather(2, 0, 0, kind, 1), takes ? 1 : STORE);
                due("36: is it there", x.held(2, 0), takes ? kind : NONE);
                due("36: NOTHING too", x.gather(2, 0, 0, 5, 1), 1);
                due("36: so it is gone", x.held(2, 0), NONE);
            }
            due("36: no NOTE, FORM " + form, x.gather(2, 0, 0, 6, 1), STORE);
            due("36: no ROW, FORM " + form, x.gather(2, 0, 0, 7, 1), STORE);
        }
    }

    private static void gather() {
        ToteHouse x = Days.ofAllSlips();
        x.satchel(0, 0, 10);
        due("37: three", x.gather(0, 4, 0, 2, 3), 3);
        int[] want = {NONE, NONE, NONE, NONE, 2, 3, 4, NONE};
        for (int i = 0; i < want.length; i++) {
            due("37: place " + i, x.held(0, i), want[i]);
        }
        due("37: SLIPS hold them, too", x.read(0, 2), 2);
        due("37: NOTHING over one", x.gather(0, 4, 0, 5, 1), 1);
        due("37: NOTHING", x.held(0, 4), NONE);
        due("37: up to the NOTE", x.gather(0, 0, 0, 3, 5), STORE);
        due("39: three came", x.came(), 3);
        due("37: the first is there", x.held(0, 0), 3);
        due("37: the second is there", x.held(0, 1), 4);
        due("37: the fourth is not", x.held(0, 3), NONE);
        due("37: the latest", x.finding(), 4);
        x.drawer(1, 12);
        due("37: up to where the SATCHEL ends", x.gather(0, 0, 1, 0, 12), INDEX);
        due("39: ten came", x.came(), 10);
        due("37: none", x.gather(0, 0, 0, 0, 0), 0);
        due("39: none came", x.came(), 0);
    }

    private static void gatherRefusals() {
        ToteHouse x = Days.ofAllSlips();
        due("37: SATCHEL 4", x.gather(4, 0, 0, 0, 1), UNKNOWN);
        due("37: SATCHEL -1", x.gather(-1, 0, 0, 0, 1), UNKNOWN);
        due("37: WINDOW 6", x.gather(0, 0, 6, 0, 1), UNKNOWN);
        due("37: UNKNOWN ahead of OUTSIDE", x.gather(0, 0, 6, 0, 13), UNKNOWN);
        due("37: n 13", x.gather(0, 0, 0, 0, 13), OUTSIDE);
        due("37: n -1, no SIZE", x.gather(0, 0, 0, 0, -1), OUTSIDE);
        due("37: no FINDING till now", x.finding(), 0);
        due("37: n 0, and all is LOST", x.gather(0, 99, 1, 99, 0), 0);
        due("37: no FINDING still", x.finding(), 0);
    }

    private static void gatherInTheOrderOfFindings() {
        ToteHouse x = Days.ofAllSlips();
        due("37: LOST, no SATCHEL", x.gather(0, 0, 1, 0, 1), NULL);
        due("37: SLIP 8 ahead of no SATCHEL", x.gather(0, 0, 0, 8, 1), INDEX);
        due("37: SLIP -1 ahead of no SATCHEL", x.gather(0, 0, 0, -1, 1), INDEX);
        due("37: no SATCHEL", x.gather(0, -1, 0, 6, 1), NULL);
        x.satchel(0, 0, 2);
        due("37: place 2 ahead of STORE", x.gather(0, 2, 0, 6, 1), INDEX);
        due("37: place -1", x.gather(0, -1, 0, 0, 1), INDEX);
        due("37: STORE", x.gather(0, 0, 0, 6, 1), STORE);
        due("37: SLIP greatest", x.gather(0, 0, 0, GREATEST, 2), INDEX);
        due("37: place greatest", x.gather(0, GREATEST, 0, 0, 2), INDEX);
        due("37: place least", x.gather(0, LEAST, 0, 0, 2), INDEX);
        due("37: SLIPS end behind one", x.gather(0, 0, 0, 7, 2), STORE);
        x.clear(0, 7);
        due("37: now it is SLIP 8", x.gather(0, 0, 0, 7, 2), INDEX);
        due("39: one came", x.came(), 1);
        x.lose(0);
        due("37: LOST ahead of all", x.gather(0, 0, 0, 99, 1), NULL);
    }

    private static void shift() {
        ToteHouse x = Days.ofAllSlips();
        x.satchel(0, 0, 6);
        x.gather(0, 0, 0, 0, 5);
        x.satchel(1, 2, 4);
        due("38: PAIR and ORDER", x.shift(0, 2, 1, 1, 2), 2);
        int[] want = {NONE, 2, 3, NONE};
        for (int i = 0; i < 4; i++) {
            due("38: place " + i, x.held(1, i), want[i]);
        }
        due("38: they are there, too", x.held(0, 2), 2);
        due("38: up to THE DOUBLE", x.shift(0, 3, 1, 0, 3), STORE);
        due("38: ORDER came", x.held(1, 0), 3);
        due("39: one came", x.came(), 1);
        due("38: PAIR stays", x.held(1, 1), 2);
        due("38: NOTHING", x.shift(0, 5, 1, 1, 1), 1);
        due("38: NOTHING is there", x.held(1, 1), NONE);
        due("38: none", x.shift(0, 99, 1, 99, 0), 0);
        x.satchel(2, 0, 10);
        x.satchel(3, 0, 10);
        due("38: ten", x.shift(2, 0, 3, 0, 10), 10);
    }

    private static void shiftWithinOne() {
        ToteHouse x = Days.ofAllSlips();
        x.satchel(0, 0, 6);
        x.gather(0, 0, 0, 0, 5);
        due("38: upward, as they were", x.shift(0, 0, 0, 1, 5), 5);
        int[] up = {0, 0, 1, 2, 3, 4};
        for (int i = 0; i < 6; i++) {
            due("38: place " + i, x.held(0, i), up[i]);
        }
        due("38: downward", x.shift(0, 2, 0, 0, 4), 4);
        int[] down = {1, 2, 3, 4, 3, 4};
        for (int i = 0; i < 6; i++) {
            due("38: place " + i, x.held(0, i), down[i]);
        }
        due("38: beyond the end", x.shift(0, 0, 0, 4, 4), INDEX);
        due("39: two came", x.came(), 2);
        due("38: the first", x.held(0, 4), 1);
        due("38: the second", x.held(0, 5), 2);
    }

    private static void shiftRefusals() {
        ToteHouse x = Days.ofAllSlips();
        due("38: s 4", x.shift(4, 0, 0, 0, 1), UNKNOWN);
        due("38: t -1", x.shift(0, 0, -1, 0, 1), UNKNOWN);
        due("38: t 4", x.shift(0, 0, 4, 0, 11), UNKNOWN);
        due("38: n 11", x.shift(0, 0, 1, 0, 11), OUTSIDE);
        due("38: n -1", x.shift(0, 0, 1, 0, -1), OUTSIDE);
        due("38: no FINDING till now", x.finding(), 0);
        due("38: no s, no t", x.shift(0, 0, 1, 0, 0), NULL);
        x.satchel(0, 0, 3);
        due("38: no t", x.shift(0, 0, 1, 0, 0), NULL);
        due("38: no s", x.shift(1, 0, 0, 0, 0), NULL);
        x.satchel(1, 3, 2);
        x.gather(0, 0, 0, 0, 3);
        due("38: i 3 ahead of j 2", x.shift(0, 3, 1, 2, 1), INDEX);
        due("38: i -1", x.shift(0, -1, 1, 0, 1), INDEX);
        due("38: j 2 ahead of STORE", x.shift(0, 0, 1, 2, 1), INDEX);
        due("38: j -1", x.shift(0, 0, 1, -1, 1), INDEX);
        due("38: STORE", x.shift(0, 0, 1, 0, 1), STORE);
        due("38: i greatest", x.shift(0, GREATEST, 1, 0, 2), INDEX);
        due("38: j greatest", x.shift(0, 0, 1, GREATEST, 2), INDEX);
        due("38: i least", x.shift(0, LEAST, 1, 0, 2), INDEX);
        due("38: i beyond this SATCHEL, not beyond ten", x.shift(0, 3, 0, 0, 1), INDEX);
        due("38: NOTHING came", x.held(1, 0), NONE);
    }

    private static void came() {
        ToteHouse x = Days.ofAllSlips();
        due("39: before", x.came(), 0);
        x.satchel(0, 0, 5);
        x.gather(0, 0, 0, 0, 4);
        due("39: four", x.came(), 4);
        x.gather(4, 0, 0, 0, 1);
        x.gather(0, 0, 0, 0, 13);
        x.shift(0, 0, 4, 0, 1);
        x.shift(0, 0, 0, 0, 11);
        due("39: four still", x.came(), 4);
        x.shift(0, 0, 1, 0, 1);
        due("39: none by one with a FINDING", x.came(), 0);
        x.shift(0, 0, 0, 3, 2);
        due("39: two", x.came(), 2);
        x.gather(3, 0, 0, 0, 1);
        due("39: none again", x.came(), 0);
    }

    private static void held() {
        ToteHouse x = Days.ofAllSlips();
        due("40: s 4", x.held(4, 0), UNKNOWN);
        due("40: s -1", x.held(-1, 0), UNKNOWN);
        due("40: none", x.held(0, 0), NULL);
        x.satchel(0, 0, 2);
        due("40: place 2", x.held(0, 2), INDEX);
        due("40: place -1", x.held(0, -1), INDEX);
        due("40: NOTHING", x.held(0, 1), NONE);
        x.gather(0, 1, 0, 4, 1);
        due("40: a TICKET", x.held(0, 1), 4);
    }

    private static void cash() {
        ToteHouse x = new ToteHouse();
        x.race(5);
        x.race(5);
        x.pool(0, 0, 0, 10);
        x.pool(1, 0, 0, 10);
        x.sell(0, 0, 1, 0, 0, 10);
        x.sell(0, 0, 1, 0, 0, 20);
        x.sell(0, 0, 2, 0, 0, 30);
        x.sell(0, 4, 1, 0, 0, 40);
        x.sell(0, 0, 1, 0, 0, 50);
        x.sell(0, 0, 1, 0, 0, 60);
        x.cancel(4);
        x.drawer(0, 6);
        for (int t = 0; t < 6; t++) {
            x.keep(0, t, t);
        }
        x.satchel(0, 0, 10);
        x.gather(0, 1, 0, 0, 5);
        x.gather(0, 7, 0, 0, 1);
        due("41: s 4", x.cash(4), UNKNOWN);
        due("41: s -1", x.cash(-1), UNKNOWN);
        due("41: none", x.cash(1), NULL);
        due("41: not SETTLED", x.cash(0), 0);
        x.off(0);
        x.place(0, 1, 1);
        x.place(0, 2, 2);
        x.place(0, 3, 3);
        x.official(0);
        // 1200 by 90 UNITS is 13, cut to 10; TICKET 0 is there twice
        due("41: 100 and 200", x.cash(0), 300);
        due("41: book", x.book(0, 9), 300);
        int[] state = {3, 3, 3, 0, 1, 0};
        for (int t = 0; t < 6; t++) {
            due("41: state of " + t, x.ticket(t, 5), state[t]);
        }
        due("41: they are there still", x.held(0, 1), 0);
        due("41: again", x.cash(0), 0);
        due("20: unclaimed", x.unclaimed(), 600);
        x.satchel(3, 0, 1);
        x.gather(3, 0, 0, 5, 1);
        due("41: one alone, at place 0", x.cash(3), 600);
        x.satchel(2, 0, 0);
        due("41: no places", x.cash(2), 0);
    }
}
