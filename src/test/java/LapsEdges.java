/** Boundary cases of promises 42 to 45: laps. */
final class LapsEdges {
    private static final int UNKNOWN = ToteHouse.UNKNOWN, FULL = ToteHouse.FULL;
    private static final int LEAST = Edge.LEAST, GREATEST = Edge.GREATEST;
    private static final int NO_NUMBER = 0x7FC00000, ENDLESS = 0x7F800000, MINUS_ENDLESS = 0xFF800000;
    private static final int GREATEST_NUMBER = 0x7F7FFFFF, LEAST_NUMBER = 0xFF7FFFFF;
    private static final int MINUS_ZERO = LEAST, SMALLEST = 1, MINUS_SMALLEST = 0x80000001, FIRST_NORMAL = 0x00800000;
    private static final int INDEX = 2;
    private static final int[] NO_RACES = {-1, 4, 12, LEAST, GREATEST};

    private LapsEdges() {
    }

    static void all() {
        floats();
        numbers();
        lap();
        lapAt();
        sums();
        means();
        leastAndGreatest();
        paceWithoutNumbers();
        paceRefusals();
        remainder();
        remainderWithoutNumbers();
        remainderRefusals();
    }

    private static void due(String edge, long got, long want) {
        Edge.due(edge, got, want);
    }

    private static ToteHouse lapped(int... bits) {
        ToteHouse x = new ToteHouse();
        x.race(2);
        for (int b : bits) {
            x.lap(0, b);
        }
        return x;
    }

    private static int bits(float f) {
        return Float.floatToIntBits(f);
    }

    private static void floats() {
        Edge.of("Terms", "what is no number by 0x7FC00000 alone, whatever bits came");
        int[] none = {0x7F800001, 0x7FBFFFFF, NO_NUMBER, 0x7FC00001, GREATEST, 0xFF800001, 0xFFC00000, -1};
        for (int b : none) {
            due(Integer.toHexString(b), lapped(b).lapAt(0, 0), NO_NUMBER);
        }
        Edge.of("Terms", "are floats, told by 32 bits");
        int[] kept = {0, MINUS_ZERO, SMALLEST, MINUS_SMALLEST, FIRST_NORMAL - 1, FIRST_NORMAL, GREATEST_NUMBER,
            LEAST_NUMBER, ENDLESS, MINUS_ENDLESS};
        for (int b : kept) {
            due(Integer.toHexString(b), lapped(b).lapAt(0, 0), b);
        }
    }

    private static void numbers() {
        Edge.of("Terms", "NUMBERS are those that are neither that nor endless");
        int[] some = {0, MINUS_ZERO, SMALLEST, MINUS_SMALLEST, GREATEST_NUMBER, LEAST_NUMBER};
        for (int b : some) {
            due(Integer.toHexString(b) + " is one", lapped(b).pace(0, 4), 1);
        }
        for (int b : new int[] {ENDLESS, MINUS_ENDLESS, NO_NUMBER, 0x7F800001, -1}) {
            due(Integer.toHexString(b) + " is none", lapped(b).pace(0, 4), 0);
        }
    }

    private static void lap() {
        Edge.of(42, "A LAP of a RACE: how many there are");
        ToteHouse x = Days.mixed();
        due("the third, of a RACE that is OFFICIAL", x.lap(0, 0), 3);
        due("the first, OFF", x.lap(2, -1), 1);
        for (int k = 1; k <= 12; k++) {
            due("number " + k + " of twelve", x.lap(3, k), k);
        }
        Edge.of(42, "FULL");
        due("one more", x.lap(3, 0), FULL);
        Edge.refused("a thirteenth", y -> y.lap(1, 0), FULL);
        Edge.refused("a thirteenth that is no number", y -> y.lap(1, -1), FULL);
        Edge.of(42, "UNKNOWN");
        for (int race : NO_RACES) {
            Edge.refused("race " + race, y -> y.lap(race, 0), UNKNOWN);
        }
        Edge.of("Terms", "LAPS of a RACE (12 at most)");
        due("the twelfth is there", x.lapAt(3, 11), 12);
        due("no thirteenth is", x.lapAt(3, 12), 0);
    }

    private static void lapAt() {
        Edge.of(43, "Bits of LAP k");
        Edge.asked("the first", y -> y.lapAt(0, 0), bits(1f));
        Edge.asked("the last, no number", y -> y.lapAt(0, 1), NO_NUMBER);
        Edge.asked("0.0 is no refusal", y -> y.lapAt(1, 0), 0);
        Edge.asked("the twelfth", y -> y.lapAt(1, 11), 11);
        Edge.of(43, "0: UNKNOWN, INDEX");
        for (int race : NO_RACES) {
            Edge.refusedByZero("race " + race + ", no LAP either", y -> y.lapAt(race, -1), 0);
        }
        for (int k : new int[] {-1, 2, 12, LEAST, GREATEST}) {
            Edge.refusedByZero("LAP " + k + " of two", y -> y.lapAt(0, k), INDEX);
        }
        Edge.refusedByZero("LAP 0 of none", y -> y.lapAt(2, 0), INDEX);
        Edge.refusedByZero("LAP 12 of twelve", y -> y.lapAt(1, 12), INDEX);
    }

    private static void sums() {
        Edge.of(44, "0 their sum, in floats, from 0.0 on");
        due("-0.0 alone", lapped(MINUS_ZERO).pace(0, 0), 0);
        due("the greatest alone", lapped(GREATEST_NUMBER).pace(0, 0), GREATEST_NUMBER);
        due("the least alone", lapped(LEAST_NUMBER).pace(0, 0), LEAST_NUMBER);
        due("what is none of them is passed over", lapped(ENDLESS, bits(2f), NO_NUMBER).pace(0, 0), bits(2f));
        due("one ahead of the last that counts", lapped(bits(16777216f), bits(1f), bits(1f)).pace(0, 0), bits(16777216f));
        due("the same, the other way round", lapped(bits(1f), bits(1f), bits(16777216f)).pace(0, 0), bits(16777218f));
        due("the greatest twice is endless", lapped(GREATEST_NUMBER, GREATEST_NUMBER).pace(0, 0), ENDLESS);
        due("and stays so", lapped(GREATEST_NUMBER, GREATEST_NUMBER, LEAST_NUMBER).pace(0, 0), ENDLESS);
        due("the least twice", lapped(LEAST_NUMBER, LEAST_NUMBER).pace(0, 0), MINUS_ENDLESS);
        due("both are 0.0", lapped(GREATEST_NUMBER, LEAST_NUMBER).pace(0, 0), 0);
        due("the smallest less itself", lapped(MINUS_SMALLEST, SMALLEST).pace(0, 0), 0);
        due("the smallest twice", lapped(SMALLEST, SMALLEST).pace(0, 0), 2);
        due("up to the first of full precision", lapped(FIRST_NORMAL - 1, SMALLEST).pace(0, 0), FIRST_NORMAL);
        due("down from it", lapped(FIRST_NORMAL, MINUS_SMALLEST).pace(0, 0), FIRST_NORMAL - 1);
        int[] twelve = new int[12];
        java.util.Arrays.fill(twelve, bits(0.1f));
        float sum = 0f;
        for (int k = 0; k < 12; k++) {
            sum += 0.1f;
        }
        due("twelve tenths", lapped(twelve).pace(0, 0), bits(sum));
    }

    private static void means() {
        Edge.of(44, "1 that by how many they are (as a float)");
        due("one", lapped(bits(3f)).pace(0, 1), bits(3f));
        due("what is none of them does not count", lapped(bits(3f), ENDLESS, NO_NUMBER).pace(0, 1), bits(3f));
        due("10 by 3", lapped(bits(10f), 0, 0).pace(0, 1), bits(10f / 3f));
        due("-10 by 3", lapped(bits(-10f), 0, 0).pace(0, 1), bits(-10f / 3f));
        due("the smallest by 2", lapped(SMALLEST, 0).pace(0, 1), 0);
        due("minus the smallest by 2 is -0.0", lapped(MINUS_SMALLEST, 0).pace(0, 1), MINUS_ZERO);
        due("endless by 2", lapped(GREATEST_NUMBER, GREATEST_NUMBER).pace(0, 1), ENDLESS);
        due("minus endless by 2", lapped(LEAST_NUMBER, LEAST_NUMBER).pace(0, 1), MINUS_ENDLESS);
        due("-0.0 by 1", lapped(MINUS_ZERO).pace(0, 1), 0);
    }

    private static void leastAndGreatest() {
        Edge.of(44, "2 the least one (the first of those that none is less than)");
        due("-0.0 ahead of 0.0", lapped(MINUS_ZERO, 0).pace(0, 2), MINUS_ZERO);
        due("0.0 ahead of -0.0", lapped(0, MINUS_ZERO).pace(0, 2), 0);
        due("minus endless is none of them", lapped(MINUS_ENDLESS, bits(2f), bits(1f)).pace(0, 2), bits(1f));
        due("the least float", lapped(bits(1f), LEAST_NUMBER).pace(0, 2), LEAST_NUMBER);
        due("minus the smallest", lapped(0, MINUS_SMALLEST).pace(0, 2), MINUS_SMALLEST);
        due("one alone", lapped(GREATEST_NUMBER).pace(0, 2), GREATEST_NUMBER);
        Edge.of(44, "3 the greatest likewise");
        due("-0.0 ahead of 0.0", lapped(MINUS_ZERO, 0).pace(0, 3), MINUS_ZERO);
        due("0.0 ahead of -0.0", lapped(0, MINUS_ZERO).pace(0, 3), 0);
        due("endless is none of them", lapped(ENDLESS, bits(1f), bits(2f)).pace(0, 3), bits(2f));
        due("the greatest float", lapped(bits(1f), GREATEST_NUMBER).pace(0, 3), GREATEST_NUMBER);
        due("the smallest", lapped(0, SMALLEST).pace(0, 3), SMALLEST);
        due("below 0", lapped(bits(-2f), bits(-1f)).pace(0, 3), bits(-1f));
    }

    private static void paceWithoutNumbers() {
        Edge.of(44, "0x7FC00000 without any");
        for (int what = 0; what < 4; what++) {
            due("no LAPS, what " + what, lapped().pace(0, what), NO_NUMBER);
            due("none of them one, what " + what, lapped(ENDLESS, MINUS_ENDLESS, -1).pace(0, what), NO_NUMBER);
        }
        Edge.of(44, "4: how many they are");
        due("no LAPS", lapped().pace(0, 4), 0);
        due("none of them", lapped(ENDLESS, MINUS_ENDLESS, -1).pace(0, 4), 0);
        Edge.asked("one of two", y -> y.pace(0, 4), 1);
        Edge.asked("all of twelve", y -> y.pace(1, 4), 12);
    }

    private static void paceRefusals() {
        Edge.of(44, "0: UNKNOWN, OUTSIDE");
        for (int race : NO_RACES) {
            for (int what = 0; what <= 4; what++) {
                int asked = what;
                Edge.refusedByZero("race " + race + ", what " + what, y -> y.pace(race, asked), 0);
            }
        }
        for (int what : new int[] {-1, 5, LEAST, GREATEST}) {
            Edge.refusedByZero("what " + what, y -> y.pace(0, what), 0);
            Edge.refusedByZero("what " + what + ", no LAPS", y -> y.pace(2, what), 0);
        }
    }

    private static void divides(int lap, int step) {
        int want = bits(Float.intBitsToFloat(lap) % Float.intBitsToFloat(step));
        due(Integer.toHexString(lap) + " by " + Integer.toHexString(step), lapped(lap).remainder(0, 0, step), want);
    }

    private static void remainder() {
        Edge.of(45, "Bits of the remainder (as this language has it) of LAP k by a step told by bits, as floats");
        int[] edges = {SMALLEST, MINUS_SMALLEST, 2, 3, FIRST_NORMAL - 1, FIRST_NORMAL, FIRST_NORMAL + 1, bits(1f),
            bits(-1f), bits(1.5f), bits(-2.5f), bits(16777216f), GREATEST_NUMBER, LEAST_NUMBER, GREATEST_NUMBER - 1};
        for (int lap : edges) {
            for (int step : edges) {
                divides(lap, step);
            }
            divides(0, lap);
            divides(MINUS_ZERO, lap);
            divides(lap, ENDLESS);
            divides(lap, MINUS_ENDLESS);
        }
        divides(0, ENDLESS);
        divides(MINUS_ZERO, MINUS_ENDLESS);
        due("-2 by 2 is -0.0", lapped(bits(-2f)).remainder(0, 0, bits(2f)), MINUS_ZERO);
        due("-2 by -2 is -0.0", lapped(bits(-2f)).remainder(0, 0, bits(-2f)), MINUS_ZERO);
        due("2 by -2 is 0.0", lapped(bits(2f)).remainder(0, 0, bits(-2f)), 0);
        Edge.asked("of the first LAP", y -> y.remainder(0, 0, bits(0.75f)), bits(0.25f));
        Edge.asked("of the twelfth", y -> y.remainder(1, 11, 4), 3);
    }

    private static void remainderWithoutNumbers() {
        Edge.of(45, "0x7FC00000: the LAP is no NUMBER, or the step is no number, or 0");
        for (int lap : new int[] {ENDLESS, MINUS_ENDLESS, NO_NUMBER, -1}) {
            for (int step : new int[] {bits(1f), ENDLESS, NO_NUMBER, 0}) {
                due("LAP " + Integer.toHexString(lap) + " by " + Integer.toHexString(step),
                    lapped(lap).remainder(0, 0, step), NO_NUMBER);
            }
        }
        for (int step : new int[] {NO_NUMBER, 0x7F800001, 0xFF800001, 0xFFC00000, GREATEST, -1, 0, MINUS_ZERO}) {
            Edge.asked("by " + Integer.toHexString(step), y -> y.remainder(0, 0, step), NO_NUMBER);
        }
        due("0.0 by 0.0", lapped(0).remainder(0, 0, 0), NO_NUMBER);
    }

    private static void remainderRefusals() {
        Edge.of(45, "0: UNKNOWN, INDEX");
        for (int race : NO_RACES) {
            Edge.refusedByZero("race " + race + ", no LAP either", y -> y.remainder(race, -1, bits(1f)), 0);
        }
        for (int k : new int[] {-1, 2, 12, LEAST, GREATEST}) {
            Edge.refusedByZero("LAP " + k + " of two", y -> y.remainder(0, k, bits(1f)), INDEX);
            Edge.refusedByZero("LAP " + k + " of two, by 0", y -> y.remainder(0, k, 0), INDEX);
        }
        Edge.refusedByZero("LAP 0 of none", y -> y.remainder(2, 0, bits(1f)), INDEX);
    }
}
