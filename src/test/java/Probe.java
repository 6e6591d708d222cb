import java.util.Arrays;

/** What a tote answers to some 220 questions about all that it holds, most of it on the mixed day. */
final class Probe {
    /** Behind it stand the counts of FINDINGS 1 to 6. These come first, as questions behind them meet FINDINGS. */
    static final int LATEST_FINDING = 0;

    private final ToteHouse x;
    private final long[] answers = new long[400];
    private int length;

    private Probe(ToteHouse x) {
        this.x = x;
    }

    static long[] of(ToteHouse x) {
        Probe probe = new Probe(x);
        probe.askCounts();
        probe.askRaces();
        probe.askTickets();
        probe.askDrawers();
        probe.askSatchels();
        return Arrays.copyOf(probe.answers, probe.length);
    }

    private void add(long answer) {
        answers[length++] = answer;
    }

    private void askCounts() {
        add(x.finding());
        for (int what = 11; what <= 16; what++) add(x.count(what));
        for (int what = 0; what <= 5; what++) add(x.count(what));
        for (int k = 0; k < 6; k++) add(x.trace(k));
        add(x.digest());
        add(x.rest());
        add(x.unclaimed());
        add(x.worstDue());
        add(x.came());
    }

    private void askRaces() {
        for (int race = 0; race < 4; race++) {
            add(x.raceAt(race, 2));
            add(x.raceAt(race, 3));
            add(x.pace(race, 4));
        }
        for (int k = 0; k < 13; k++) {
            add(x.lapAt(0, k));
            add(x.lapAt(1, k));
        }
    }

    private void askTickets() {
        for (int ticket = 0; ticket < 15; ticket++) {
            for (int what : new int[] {0, 3, 6, 7}) add(x.ticket(ticket, what));
        }
        for (int kind = 0; kind < 4; kind++) add(x.odds(4 + kind, 1, 2, 3));
        for (int runner = 1; runner <= 5; runner++) add(x.units(4, runner, 0, 0));
        for (int runner = 1; runner <= 5; runner++) add(x.units(48, runner, 7, 0));
        add(x.dividend(0, 1, 0, 0));
        for (int window = 0; window < 6; window++) add(x.premium(window));
    }

    private void askDrawers() {
        for (int window = 0; window < 6; window++) {
            for (int i = 0; i < 6; i++) add(x.kind(window, i));
        }
        for (int k = 0; k < 4; k++) add(x.letter(0, 1, k));
        for (int k = 0; k < 4; k++) add(x.coinAt(0, 2, k));
        add(x.read(0, 0));
        add(x.read(0, 4));
    }

    private void askSatchels() {
        for (int s = 0; s < 4; s++) {
            for (int place = 0; place < 5; place++) add(x.held(s, place));
        }
    }
}
