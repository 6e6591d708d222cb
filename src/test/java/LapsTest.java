import java.util.Random;

/** Promises 42 to 45: laps, measured by this language's own floats. */
public final class LapsTest {
    private static final int UNKNOWN = ToteHouse.UNKNOWN, FULL = ToteHouse.FULL;
    private static final int NO_NUMBER = 0x7FC00000, ENDLESS = 0x7F800000, MINUS_ENDLESS = 0xFF800000;
    private static final int LEAST = Integer.MIN_VALUE, GREATEST = Integer.MAX_VALUE;

    public static void main(String[] args) {
        lap();
        lapAt();
        paceOfFew();
        paceWithoutNumbers();
        paceOfZeros();
        paceBeyondTheFloats();
        paceOfTheSmallest();
        paceRefusals();
        remainder();
        remainderOfNoNumbers();
        remainderRefusals();
        manyPaces();
        manyRemainders();
        Expect.end();
    }

    private static void due(String call, long got, long want) {
        Expect.due(call, got, want);
    }

    private static int bits(float f) {
        return Float.floatToIntBits(f);
    }

    private static ToteHouse lapped(float... laps) {
        ToteHouse x = new ToteHouse();
        x.race(2);
        for (float f : laps) {
            x.lap(0, bits(f));
        }
        return x;
    }

    private static void lap() {
        ToteHouse x = new ToteHouse();
        due("42: no race", x.lap(0, 0), UNKNOWN);
        x.race(2);
        x.race(2);
        due("42: race 2", x.lap(2, 0), UNKNOWN);
        due("42: race -1", x.lap(-1, 0), UNKNOWN);
        for (int k = 1; k <= 12; k++) {
            due("42: lap " + k, x.lap(0, k), k);
        }
        due("42: one more", x.lap(0, 0), FULL);
        due("42: of another RACE", x.lap(1, 0), 1);
        x.off(0);
        due("42: twelve still", x.lapAt(0, 11), 12);
        x.off(1);
        due("42: in any state", x.lap(1, 0), 2);
    }

    private static void lapAt() {
        int[] told = {0, LEAST, 1, ENDLESS, MINUS_ENDLESS, ENDLESS + 1, MINUS_ENDLESS + 1, -1, GREATEST, NO_NUMBER,
            0x7F7FFFFF, 0x80000001};
        int[] want = {0, LEAST, 1, ENDLESS, MINUS_ENDLESS, NO_NUMBER, NO_NUMBER, NO_NUMBER, NO_NUMBER, NO_NUMBER,
            0x7F7FFFFF, 0x80000001};
        ToteHouse x = new ToteHouse();
        x.race(2);
        for (int k = 0; k < 12; k++) {
            x.lap(0, told[k]);
            due("43: LAP " + k, x.lapAt(0, k), want[k]);
        }
        due("43: race 1", x.lapAt(1, 0), 0);
        due("43: UNKNOWN is no FINDING", x.finding(), 0);
        due("43: LAP 12", x.lapAt(0, 12), 0);
        due("43: INDEX", x.finding(), 2);
        due("43: LAP -1", x.lapAt(0, -1), 0);
        due("43: two", x.count(12), 2);
        x.race(2);
        due("43: no LAP yet", x.lapAt(1, 0), 0);
        due("43: three", x.count(12), 3);
    }

    private static void paceOfFew() {
        ToteHouse x = lapped(12.5f, Float.NaN, -3.25f, Float.POSITIVE_INFINITY, 100f, Float.NEGATIVE_INFINITY);
        due("44: sum", x.pace(0, 0), bits(109.25f));
        due("44: by three", x.pace(0, 1), bits(109.25f / 3f));
        due("44: least", x.pace(0, 2), bits(-3.25f));
        due("44: greatest", x.pace(0, 3), bits(100f));
        due("44: how many", x.pace(0, 4), 3);
        ToteHouse y = lapped(-5f, -7f);
        due("44: a sum below 0", y.pace(0, 0), bits(-12f));
        due("44: by two", y.pace(0, 1), bits(-6f));
        due("44: greatest below 0", y.pace(0, 3), bits(-5f));
        ToteHouse z = lapped(16777216f, 1f, 1f, 1f);
        due("44: in floats, one by one", z.pace(0, 0), bits(16777216f));
        ToteHouse w = lapped(1f, 1f, 1f, 16777216f);
        due("44: in order", w.pace(0, 0), bits(16777220f));
    }

    private static void paceWithoutNumbers() {
        ToteHouse x = lapped();
        ToteHouse y = lapped(Float.NaN, Float.POSITIVE_INFINITY);
        for (int what = 0; what < 4; what++) {
            due("44: without LAPS, " + what, x.pace(0, what), NO_NUMBER);
            due("44: without NUMBERS, " + what, y.pace(0, what), NO_NUMBER);
        }
        due("44: none", x.pace(0, 4), 0);
        due("44: no NUMBERS", y.pace(0, 4), 0);
    }

    private static void paceOfZeros() {
        ToteHouse x = lapped(-0f, 0f, -0f);
        due("44: from 0.0 on", x.pace(0, 0), 0);
        due("44: by three", x.pace(0, 1), 0);
        due("44: the first of the least", x.pace(0, 2), LEAST);
        due("44: the first of the greatest", x.pace(0, 3), LEAST);
        ToteHouse y = lapped(0f, -0f);
        due("44: the first of the least, 0.0", y.pace(0, 2), 0);
        due("44: the first of the greatest, 0.0", y.pace(0, 3), 0);
        due("44: 1 less 1", lapped(1f, -1f).pace(0, 0), 0);
    }

    private static void paceBeyondTheFloats() {
        ToteHouse x = lapped(Float.MAX_VALUE, Float.MAX_VALUE, -Float.MAX_VALUE);
        due("44: endless", x.pace(0, 0), ENDLESS);
        due("44: endless by three", x.pace(0, 1), ENDLESS);
        ToteHouse y = lapped(-Float.MAX_VALUE, -Float.MAX_VALUE);
        due("44: minus endless", y.pace(0, 0), MINUS_ENDLESS);
        due("44: minus endless by two", y.pace(0, 1), MINUS_ENDLESS);
        due("44: the greatest float", lapped(Float.MAX_VALUE).pace(0, 0), bits(Float.MAX_VALUE));
        due("44: its least", lapped(-Float.MAX_VALUE).pace(0, 2), bits(-Float.MAX_VALUE));
    }

    private static void paceOfTheSmallest() {
        ToteHouse x = lapped(-Float.MIN_VALUE, 0f, 0f);
        due("44: minus the smallest", x.pace(0, 0), 0x80000001);
        due("44: by three is -0.0", x.pace(0, 1), LEAST);
        due("44: by two is 0.0", lapped(Float.MIN_VALUE, 0f).pace(0, 1), 0);
        due("44: 3 smallest by two", lapped(3 * Float.MIN_VALUE, 0f).pace(0, 1), 2);
        due("44: into the normal ones", lapped(Float.MIN_NORMAL / 2, Float.MIN_NORMAL / 2).pace(0, 0), 0x00800000);
        due("44: out of them", lapped(Float.MIN_NORMAL, 0f).pace(0, 1), 0x00400000);
    }

    private static void paceRefusals() {
        ToteHouse x = lapped(5f);
        for (int what = 0; what < 5; what++) {
            due("44: race 1", x.pace(1, what), 0);
            due("44: race -1", x.pace(-1, what), 0);
        }
        due("44: what 5", x.pace(0, 5), 0);
        due("44: what -1", x.pace(0, -1), 0);
        due("44: no FINDINGS", x.finding(), 0);
    }

    private static void remainder() {
        float[] laps = {7.5f, -7.5f, 0f, -0f, Float.MAX_VALUE, Float.MIN_VALUE, 1.2f};
        float[] steps = {2f, -2f, 7.5f, 1e30f, Float.MIN_VALUE, Float.MAX_VALUE, 0.1f, Float.POSITIVE_INFINITY,
            Float.NEGATIVE_INFINITY, 3e-39f};
        ToteHouse x = lapped(laps);
        for (int k = 0; k < laps.length; k++) {
            for (float step : steps) {
                due("45: " + laps[k] + " by " + step, x.remainder(0, k, bits(step)), bits(laps[k] % step));
            }
        }
    }

    private static void remainderOfNoNumbers() {
        ToteHouse x = lapped(1f, Float.NaN, Float.POSITIVE_INFINITY, Float.NEGATIVE_INFINITY);
        for (int k = 1; k < 4; k++) {
            due("45: LAP " + k, x.remainder(0, k, bits(1f)), NO_NUMBER);
            due("45: LAP by the endless " + k, x.remainder(0, k, ENDLESS), NO_NUMBER);
        }
        due("45: by 0", x.remainder(0, 0, 0), NO_NUMBER);
        due("45: by -0", x.remainder(0, 0, LEAST), NO_NUMBER);
        due("45: by no number", x.remainder(0, 0, NO_NUMBER), NO_NUMBER);
        due("45: by other bits of no number", x.remainder(0, 0, ENDLESS + 1), NO_NUMBER);
        due("45: by bits of no number below 0", x.remainder(0, 0, -1), NO_NUMBER);
        due("45: no FINDINGS", x.finding(), 0);
    }

    private static void remainderRefusals() {
        ToteHouse x = lapped(1f);
        due("45: race 1", x.remainder(1, 0, bits(1f)), 0);
        due("45: UNKNOWN is no FINDING", x.finding(), 0);
        due("45: LAP 1", x.remainder(0, 1, bits(1f)), 0);
        due("45: INDEX", x.finding(), 2);
        due("45: LAP -1 ahead of a step of 0", x.remainder(0, -1, 0), 0);
        due("45: two", x.count(12), 2);
    }

    private static void manyPaces() {
        Random random = new Random(44);
        for (int i = 0; i < 20000; i++) {
            float[] laps = new float[1 + random.nextInt(12)];
            float sum = 0f;
            for (int k = 0; k < laps.length; k++) {
                laps[k] = finite(random, i % 5);
                sum += laps[k];
            }
            ToteHouse x = lapped(laps);
            due("44: sum of run " + i, x.pace(0, 0), bits(sum));
            due("44: mean of run " + i, x.pace(0, 1), bits(sum / (float) laps.length));
        }
    }

    private static void manyRemainders() {
        Random random = new Random(45);
        for (int i = 0; i < 200000; i++) {
            float lap = finite(random, i % 5);
            float step = finite(random, i / 5 % 5);
            due("45: " + lap + " by " + step, lapped(lap).remainder(0, 0, bits(step)), bits(lap % step));
        }
    }

    private static float finite(Random random, int way) {
        int bits = random.nextInt();
        switch (way) {
            case 0:
                return (random.nextInt(2000) - 1000) / 8f;
            case 1:
                return Float.intBitsToFloat(bits & 0x80FFFFFF);
            case 2:
                return Float.intBitsToFloat(0x7F000000 | bits & 0x807FFFFF);
            case 3:
                return Float.intBitsToFloat(bits & 0x800000FF);
            default:
                return Float.intBitsToFloat((bits & ENDLESS) == ENDLESS ? bits & 0x807FFFFF : bits);
        }
    }
}
