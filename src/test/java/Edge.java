import java.util.ArrayList;
import java.util.Arrays;
import java.util.List;
import java.util.function.Supplier;

/** Boundary cases: each one bears the document's section and the words there that it belongs to. */
final class Edge {
    static final int LEAST = Integer.MIN_VALUE, GREATEST = Integer.MAX_VALUE;

    interface Call {
        long on(ToteHouse x);
    }

    /** Words of the document that cases stand under. */
    static final class Words {
        final String section;
        final String text;
        int cases;

        Words(String section, String text) {
            this.section = section;
            this.text = text;
        }
    }

    private static final List<Words> NAMED = new ArrayList<>();

    private Edge() {
    }

    /** The cases that follow belong to these words of a promise. */
    static void of(int promise, String words) {
        of("Promise " + promise, words);
    }

    static void of(String section, String words) {
        NAMED.add(new Words(section, words));
    }

    static List<Words> named() {
        return NAMED;
    }

    static void due(String edge, long got, long want) {
        Words words = NAMED.get(NAMED.size() - 1);
        words.cases++;
        Expect.due(words.section + ", \"" + words.text + "\": " + edge, got, want);
    }

    /** The call is refused on a mixed day, and changes nothing; a FINDING is counted, and no other refusal is. */
    static void refused(String edge, Call call, int want) {
        refused(Days::mixed, edge, call, want);
    }

    static void refused(Supplier<ToteHouse> day, String edge, Call call, int want) {
        leavesAll(day, edge, call, want, want <= -11 ? -10 - want : 0);
    }

    /** As refused(), of a call that answers 0 for each refusal; without a FINDING that is told as 0. */
    static void refusedByZero(String edge, Call call, int finding) {
        leavesAll(Days::mixed, edge, call, 0, finding);
    }

    /** The call is answered on a mixed day, and changes nothing. */
    static void asked(String edge, Call call, long want) {
        leavesAll(Days::mixed, edge, call, want, 0);
    }

    /** What a second day, on which the call was not made, answers afterwards is due of the first one, too. */
    private static void leavesAll(Supplier<ToteHouse> day, String edge, Call call, long want, int finding) {
        ToteHouse called = day.get();
        due(edge, call.on(called), want);
        long[] got = Probe.of(called);
        long[] due = Probe.of(day.get());
        if (finding > 0) {
            due[Probe.LATEST_FINDING] = finding;
            due[Probe.LATEST_FINDING + finding]++;
        }
        due(edge + ", the first answer of Probe that is another one then", Arrays.mismatch(got, due), -1);
    }
}
