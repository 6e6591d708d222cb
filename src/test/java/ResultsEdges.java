/** Boundary cases of 2 RESULTS: POSITIONS, ROWS, and what WINS. */
final class ResultsEdges {
    private static final int STATE = ToteHouse.STATE, OUTSIDE = ToteHouse.OUTSIDE;
    private static final int WIN = 0, PLACE = 1, PAIR = 2, ORDER = 3, DOUBLE = 48;

    private ResultsEdges() {
    }

    static void all() {
        positions();
        sameForAll();
        right();
        rowsOfAsMany();
        rowsByPositions();
        wins();
        places();
        placesOfDeadHeats();
        pairs();
        orders();
        voids();
        doubles();
    }

    private static void due(String edge, long got, long want) {
        Edge.due(edge, got, want);
    }

    private static void positions() {
        Edge.of("Terms", "POSITIONS (1 .. 12) are told for RUNNERS of a RACE that is OFF");
        ToteHouse x = Days.ofOneRace(12, 0, 10);
        x.sell(0, WIN, 12, 0, 0, 1);
        due("SELLING", x.place(0, 1, 1), STATE);
        due("all twelve", Days.finish(x, 0, 12, 11, 10, 9, 8, 7, 6, 5, 4, 3, 2, 1), 4);
        due("the last by number is the first", x.dividend(WIN, 12, 0, 0), 10);
        due("the first by number is the twelfth", x.raceAt(0, 11), 12);
        due("OFFICIAL", x.place(0, 1, 1), STATE);
        ToteHouse y = Days.ofOneRace(12, 0, 10);
        y.off(0);
        due("13", y.place(0, 1, 13), OUTSIDE);
    }

    /** All twelve are first: each TICKET WINS, and 200 of them are 200 TAKERS. */
    private static void sameForAll() {
        Edge.of("Terms", "several RUNNERS may have the same one");
        ToteHouse x = Days.ofOneRace(12, 0, 10);
        for (int t = 0; t < 200; t++) {
            int a = t % 12;
            int b = (a + 1 + t / 12 % 11) % 12;
            int c = (a + 1 + (t / 12 + 1 + t / 132) % 11) % 12;
            x.sell(0, ORDER, a + 1, b + 1, c + 1, 1);
        }
        due("200 are sold", x.count(2), 200);
        due("all first", Days.finish(x, 0, 1, 1, 1, 1, 1, 1, 1, 1, 1, 1, 1, 1), 4);
        due("all get theirs", x.book(ORDER, 8), 2000);
        due("nothing is left", x.book(ORDER, 6), 0);
        for (int t = 0; t < 200; t += 50) {
            due("TICKET " + t, x.pay(t), 10);
        }
        ToteHouse y = Days.ofOneRace(12, 0, 10);
        for (int a = 1; a <= 12; a++) {
            y.sell(0, WIN, a, 0, 0, 1);
            for (int b = a + 1; b <= 12; b++) {
                y.sell(0, PAIR, a, b, 0, 1);
            }
        }
        Days.finish(y, 0, 1, 1, 1, 1, 1, 1, 1, 1, 1, 1, 1, 1);
        due("twelve TAKERS of WIN", y.dividend(WIN, 12, 0, 0), 10);
        due("66 TAKERS of PAIR", y.dividend(PAIR, 11, 12, 0), 10);
        due("nothing of PAIR is left", y.book(PAIR, 6), 0);
    }

    private static void right() {
        Edge.of("Terms", "They are RIGHT, if for each RUNNER with POSITION p just p - 1 others have a lesser one");
        int[][] told = {{1, 2, 2, 4}, {1, 2, 2, 3}, {1, 2, 2, 5}, {1, 1, 3, 4}, {1, 1, 2, 4}, {2, 2, 1, 4}, {1, 2, 3, 0},
            {0, 1, 2, 3}, {0, 2, 3, 4}, {12, 1, 2, 3}, {1, 1, 1, 4}, {1, 1, 1, 2}, {1, 1, 1, 1}, {2, 2, 2, 2}};
        boolean[] right = {true, false, false, true, false, true, true, true, false, false, true, false, true, false};
        for (int i = 0; i < told.length; i++) {
            int[] p = told[i];
            ToteHouse x = Days.ofOneRace(5, 0, 10);
            due(p[0] + " " + p[1] + " " + p[2] + " " + p[3], Days.finish(x, 0, p), right[i] ? 4 : STATE);
        }
    }

    private static void rowsOfAsMany() {
        Edge.of("Terms", "FITS, if it has as many as it is to have");
        ToteHouse x = Days.ofOneRace(5, 0, 10);
        x.sell(0, ORDER, 1, 2, 3, 1);
        x.sell(0, PAIR, 1, 2, 0, 1);
        due("two alone are no ROW of three", x.odds(ORDER, 1, 2, 0), 0);
        due("two alone are a ROW of two", x.odds(PAIR, 1, 2, 0), 10);
        due("three are a ROW of three", x.odds(ORDER, 1, 2, 3), 10);
        Edge.of("Terms", "A ROW of RUNNERS with POSITIONS, all different");
        ToteHouse y = Days.ofOneRace(12, 0, 10);
        y.sell(0, WIN, 4, 0, 0, 1);
        y.sell(0, WIN, 1, 0, 0, 1);
        y.sell(0, PAIR, 1, 4, 0, 1);
        y.sell(0, PAIR, 1, 2, 0, 1);
        Days.finish(y, 0, 1, 2, 3);
        due("4 has none: WIN", y.dividend(WIN, 4, 0, 0), 0);
        due("4 has none: PAIR", y.dividend(PAIR, 1, 4, 0), 0);
        due("1 has one, and all of WIN", y.dividend(WIN, 1, 0, 0), 20);
        due("1 and 2 have all of PAIR", y.dividend(PAIR, 1, 2, 0), 20);
    }

    /** Each ORDER of three of the RUNNERS 1 to 4 is sold; what WINS is told as numbers of three digits. */
    private static void orders(String edge, int[] positions, int... winning) {
        ToteHouse x = Days.ofOneRace(5, 0, 10);
        for (int row = 0; row < 64; row++) {
            x.sell(0, ORDER, 1 + row / 16, 1 + row / 4 % 4, 1 + row % 4, winning.length);
        }
        due(edge + ", 24 are sold", x.count(2), 24);
        Days.finish(x, 0, positions);
        for (int t = 0; t < 24; t++) {
            int row = x.ticket(t, 1) * 100 + x.ticket(t, 2) * 10 + x.ticket(t, 3);
            boolean wins = false;
            for (int w : winning) {
                wins |= w == row;
            }
            // 240 for each UNIT of one TICKET is shared by the UNITS of all that WIN
            int share = 240 / winning.length / 10 * 10;
            due(edge + ", " + row, x.ticket(t, 7), wins ? winning.length * share : 0);
        }
    }

    private static void rowsByPositions() {
        Edge.of("Terms", "no RUNNER in it has a greater POSITION than one behind it");
        orders("one behind the other", new int[] {1, 2, 3, 4}, 123);
        orders("the first two in either order", new int[] {1, 1, 3, 4}, 123, 213);
        orders("the last two in either order", new int[] {1, 2, 2, 4}, 123, 132);
        orders("three in any order", new int[] {1, 1, 1, 4}, 123, 132, 213, 231, 312, 321);
        Edge.of("Terms", "and none that is not in it a lesser POSITION than one in it");
        orders("one of two thirds", new int[] {1, 2, 3, 3}, 123, 124);
        orders("two of three seconds", new int[] {1, 2, 2, 2}, 123, 124, 132, 134, 142, 143);
        orders("by numbers the other way", new int[] {4, 3, 2, 1}, 432);
    }

    private static void wins() {
        Edge.of("Terms", "What WINS: WIN: each ROW of one that FITS");
        int[][] positions = {{1, 2, 3}, {3, 2, 1}, {1, 1, 3}, {1, 1, 1}};
        int[][] want = {{60, 0, 0}, {0, 0, 60}, {30, 30, 0}, {20, 20, 20}};
        for (int i = 0; i < positions.length; i++) {
            ToteHouse x = Days.ofOneRace(3, 0, 20);
            for (int runner = 1; runner <= 3; runner++) {
                x.sell(0, WIN, runner, 0, 0, 1);
            }
            Days.finish(x, 0, positions[i]);
            for (int runner = 1; runner <= 3; runner++) {
                due("run " + i + ", RUNNER " + runner, x.dividend(WIN, runner, 0, 0), want[i][runner - 1]);
            }
        }
    }

    /** So many RUNNERS, the last ones of which are taken OUT; RUNNERS 1 to 4 are sold; how many of them WIN. */
    private static int placed(int runners, int out, int... positions) {
        ToteHouse x = Days.ofOneRace(runners, 0, 10);
        for (int runner = 1; runner <= 4; runner++) {
            x.sell(0, PLACE, runner, 0, 0, 1);
        }
        for (int i = 0; i < out; i++) {
            x.scratch(0, runners - i);
        }
        Days.finish(x, 0, positions);
        int winning = 0;
        for (int runner = 1; runner <= 4; runner++) {
            winning += x.dividend(PLACE, runner, 0, 0) > 0 ? 1 : 0;
        }
        return x.book(PLACE, 2) > 0 ? -x.book(PLACE, 2) : winning;
    }

    private static void places() {
        Edge.of("Terms", "PLACE: with 5 to 7 RUNNERS that are not OUT those with POSITIONS 1 and 2");
        due("5", placed(5, 0, 1, 2, 3, 4), 2);
        due("6", placed(6, 0, 1, 2, 3, 4), 2);
        due("7", placed(7, 0, 1, 2, 3, 4), 2);
        due("7 of 8", placed(8, 1, 1, 2, 3, 4), 2);
        due("5 of 12", placed(12, 7, 1, 2, 3, 4), 2);
        Edge.of("Terms", "with 8 or more those with 1 to 3");
        due("8", placed(8, 0, 1, 2, 3, 4), 3);
        due("12", placed(12, 0, 1, 2, 3, 4), 3);
        due("8 of 12", placed(12, 4, 1, 2, 3, 4), 3);
        Edge.of("Terms", "with fewer it is VOID");
        due("4: 40 are REFUNDED", placed(4, 0, 1, 2, 3, 4), -40);
        due("4 of 5", placed(5, 1, 1, 2, 3, 4), -40);
        due("4 of 12", placed(12, 8, 1, 2, 3, 4), -40);
    }

    private static void placesOfDeadHeats() {
        Edge.of("Terms", "those with POSITIONS 1 and 2");
        due("three seconds", placed(7, 0, 1, 2, 2, 2), 4);
        due("two firsts, no second", placed(7, 0, 1, 1, 3, 4), 2);
        due("four firsts", placed(7, 0, 1, 1, 1, 1), 4);
        Edge.of("Terms", "with 8 or more those with 1 to 3;");
        due("two thirds", placed(8, 0, 1, 2, 3, 3), 4);
        due("two seconds, no third", placed(8, 0, 1, 2, 2, 4), 3);
        due("three firsts, no third", placed(8, 0, 1, 1, 1, 4), 3);
    }

    private static void pairs() {
        Edge.of("Terms", "PAIR: the two of each ROW of two that FITS");
        int[][] positions = {{1, 2, 3, 4}, {1, 1, 3, 4}, {1, 2, 2, 4}, {1, 1, 1, 4}, {4, 3, 2, 1}, {1, 2, 2, 2}};
        String[] winning = {"12", "12", "12 13", "12 13 23", "34", "12 13 14"};
        for (int i = 0; i < positions.length; i++) {
            ToteHouse x = Days.ofOneRace(5, 0, 10);
            for (int a = 1; a <= 4; a++) {
                for (int b = a + 1; b <= 4; b++) {
                    x.sell(0, PAIR, a, b, 0, 1);
                }
            }
            Days.finish(x, 0, positions[i]);
            int share = 60 / winning[i].split(" ").length;
            for (int t = 0; t < 6; t++) {
                String pair = "" + x.ticket(t, 1) + x.ticket(t, 2);
                due("run " + i + ", " + pair, x.ticket(t, 7), winning[i].contains(pair) ? share : 0);
            }
        }
    }

    private static void orders() {
        Edge.of("Terms", "ORDER: each ROW of three that FITS");
        orders("six of them", new int[] {4, 1, 1, 1}, 234, 243, 324, 342, 423, 432);
        ToteHouse x = Days.ofOneRace(3, 0, 10);
        x.sell(0, ORDER, 3, 1, 2, 1);
        Days.finish(x, 0, 2, 3, 1);
        due("three RUNNERS are enough", x.dividend(ORDER, 3, 1, 2), 10);
    }

    private static void voids() {
        Edge.of("Terms", "(With fewer than 2, 3 RUNNERS that are not OUT PAIR, ORDER are VOID.)");
        ToteHouse two = Days.ofOneRace(3, 0, 10);
        two.sell(0, PAIR, 1, 2, 0, 1);
        two.sell(0, ORDER, 1, 2, 3, 1);
        two.scratch(0, 3);
        due("two are left, all POOLS", Days.finish(two, 0, 1, 2), 4);
        due("PAIR is not VOID", two.dividend(PAIR, 1, 2, 0), 10);
        due("ORDER is, REFUNDED", two.book(ORDER, 2), 10);
        due("and CARRIES nothing OUT", two.book(ORDER, 5), 0);
        ToteHouse one = Days.ofOneRace(3, 0, 10);
        one.sell(0, PAIR, 1, 2, 0, 1);
        one.sell(0, WIN, 1, 0, 0, 1);
        one.scratch(0, 2);
        one.scratch(0, 3);
        due("one is left, all POOLS", Days.finish(one, 0, 1), 4);
        due("WIN is not VOID", one.dividend(WIN, 1, 0, 0), 10);
        due("PAIR is, REFUNDED", one.book(PAIR, 2), 10);
        due("PAIR is SETTLED", one.book(PAIR, 10), 1);
    }

    private static void doubles() {
        Edge.of("Terms", "THE DOUBLE: a WINS (as in WIN) in the FIRST RACE, b in the SECOND");
        ToteHouse x = new ToteHouse();
        x.race(3);
        x.race(3);
        x.twin(0, 1, 0, 10);
        for (int line = 0; line < 9; line++) {
            x.sell(0, DOUBLE, 1 + line / 3, 1 + line % 3, 0, 1);
        }
        Days.finish(x, 1, 2, 3, 1);
        Days.finish(x, 0, 1, 1, 3);
        for (int line = 0; line < 9; line++) {
            int a = 1 + line / 3;
            int b = 1 + line % 3;
            // 90 by two TAKERS
            due(a + ", " + b, x.dividend(DOUBLE, a, b, 0), a < 3 && b == 3 ? 40 : 0);
        }
        due("10 are left", x.book(DOUBLE, 6), 10);
        ToteHouse y = new ToteHouse();
        y.race(12);
        y.race(12);
        y.twin(0, 1, 0, 10);
        y.sell(0, DOUBLE, 12, 1, 0, 1);
        y.sell(0, DOUBLE, 12, 12, 0, 1);
        Days.finish(y, 0, 12, 11, 10, 9, 8, 7, 6, 5, 4, 3, 2, 1);
        Days.finish(y, 1, 1, 2, 3, 4, 5, 6, 7, 8, 9, 10, 11, 12);
        due("12, the last of twelve, and 1, the first", y.dividend(DOUBLE, 12, 1, 0), 20);
        due("12 is no first in the SECOND", y.dividend(DOUBLE, 12, 12, 0), 0);
        for (int left = 2; left >= 1; left--) {
            ToteHouse z = new ToteHouse();
            z.race(2);
            z.race(2);
            z.twin(0, 1, 0, 10);
            z.sell(0, DOUBLE, 1, 1, 0, 1);
            for (int race = 0; race < 2 && left == 1; race++) {
                z.scratch(race, 2);
            }
            Days.finish(z, 0, 1, 2);
            Days.finish(z, 1, 1, 2);
            due(left + " in each RACE are enough", z.dividend(DOUBLE, 1, 1, 0), 10);
        }
    }
}
