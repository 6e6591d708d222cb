import java.util.Arrays;

/**
 * A tote for a day of races. Words in capitals are the terms of the document.
 * No call throws: a refusal is a negative answer, and a look for refusals answers FINE when there is none.
 */
public final class ToteHouse {
    public static final int NONE = -1, UNKNOWN = -2, OUTSIDE = -3, SAME = -4, GONE = -5, STATE = -6, FULL = -7;

    private static final int FINE = 0;

    private static final int MOST_RACES = 12, MOST_RUNNERS = 12, MOST_POSITION = 12, MOST_TICKETS = 200;
    private static final int MOST_UNITS = 1000, MOST_LAPS = 12, MOST_TRACE = 100;
    private static final int WINDOWS = 6, MOST_SLIPS = 12, MOST_CHARS = 4, MOST_COINS = 8;
    private static final int SATCHELS = 4, MOST_FORM = 5, MOST_PLACES = 10;

    private static final int WIN = 0, PLACE = 1, PAIR = 2, ORDER = 3, DOUBLE = 4;
    private static final int KINDS_OF_RACE = 4, THE_DOUBLE = 48;

    private static final int SELLING = 0, OFF = 1, OFFICIAL = 2;
    private static final int LIVE = 0, CANCELLED = 1, REFUNDED = 2, PAID = 3;

    private static final int NULL = 1, INDEX = 2, CAST = 3, STORE = 4, SIZE = 5, ZERO = 6;

    /** The entries of a POOL's book, by the numbers that book() is asked for. */
    private static final int SOLD = 0, CALLED_OFF = 1, GIVEN_BACK = 2, DEDUCTED = 3, CARRIED_IN = 4, CARRIED_OUT = 5,
            BREAKAGE = 6, COST = 7, ALL_DUE = 8, PAID_OUT = 9, SETTLED = 10, BOOK_ENTRIES = 11;

    private static final int HOLDS_NOTHING = 0, HOLDS_TICKET = 1, HOLDS_NOTE = 2, HOLDS_COINS = 3;

    /** What a SLIP brings to a SATCHEL when it holds a NOTE or a ROW. */
    private static final int NO_TICKET = -2;

    /** The size of a DRAWER that is LOST and of a SATCHEL that is not there. */
    private static final int ABSENT = -1;

    private final Race[] races = new Race[MOST_RACES];
    private final Pool[] pools = new Pool[THE_DOUBLE + 1];
    private final Ticket[] tickets = new Ticket[MOST_TICKETS];
    private final Drawer[] drawers = new Drawer[WINDOWS];
    private final Satchel[] satchels = new Satchel[SATCHELS];
    private final Bodies bodies = new Bodies();
    private final Finish supposed = new Finish();
    private final Settlement settlement = new Settlement();
    private final int[] moving = new int[MOST_PLACES];
    private final int[] findings = new int[ZERO + 1];
    private int raceCount;
    private int ticketCount;
    private int theRest;
    private int mostDue;
    private int cameLast;
    private int latestFinding;

    public ToteHouse() {
        for (int w = 0; w < WINDOWS; w++) {
            drawers[w] = new Drawer();
        }
        for (int s = 0; s < SATCHELS; s++) {
            satchels[s] = new Satchel();
        }
    }

    // ---- the day

    public int race(int n) {
        if (n < 2 || n > MOST_RUNNERS) {
            return OUTSIDE;
        }
        if (raceCount >= MOST_RACES) {
            return FULL;
        }
        races[raceCount] = new Race(n);
        raceCount++;
        return raceCount - 1;
    }

    public int pool(int race, int kind, int deduction, int unit) {
        Race told = findRace(race);
        if (told == null) {
            return UNKNOWN;
        }
        if (kind < WIN || kind > ORDER || !areTerms(deduction, unit)) {
            return OUTSIDE;
        }
        int number = poolNumber(race, kind);
        if (pools[number] != null) {
            return SAME;
        }
        if (told.state != SELLING) {
            return STATE;
        }
        pools[number] = new Pool(number, kind, told, told, deduction, unit);
        return number;
    }

    public int twin(int first, int second, int deduction, int unit) {
        Race one = findRace(first);
        Race other = findRace(second);
        if (one == null || other == null) {
            return UNKNOWN;
        }
        if (first >= second || !areTerms(deduction, unit)) {
            return OUTSIDE;
        }
        if (pools[THE_DOUBLE] != null) {
            return SAME;
        }
        if (one.state != SELLING || other.state != SELLING) {
            return STATE;
        }
        pools[THE_DOUBLE] = new Pool(THE_DOUBLE, DOUBLE, one, other, deduction, unit);
        return THE_DOUBLE;
    }

    public int substitute(int race, int runner) {
        Race told = findRace(race);
        int refusal = refuseRunner(told, runner, SELLING);
        if (told == null || refusal != FINE) {
            return refusal;
        }
        int before = told.substitute;
        told.substitute = runner;
        return before;
    }

    public int scratch(int race, int runner) {
        Race told = findRace(race);
        int refusal = refuseRunner(told, runner, SELLING);
        if (told == null || refusal != FINE) {
            return refusal;
        }
        told.takeOut(runner);
        int touched = 0;
        for (int t = 0; t < ticketCount; t++) {
            if (tickets[t].state == LIVE && tickets[t].isFor(told, runner)) {
                tickets[t].loseRunner(told);
                touched++;
            }
        }
        return touched;
    }

    public int off(int race) {
        Race told = findRace(race);
        if (told == null) {
            return UNKNOWN;
        }
        if (told.state != SELLING) {
            return STATE;
        }
        told.state = OFF;
        return told.running;
    }

    public int place(int race, int runner, int position) {
        Race told = findRace(race);
        if (told != null && (position < 0 || position > MOST_POSITION)) {
            return OUTSIDE;
        }
        int refusal = refuseRunner(told, runner, OFF);
        if (told == null || refusal != FINE) {
            return refusal;
        }
        int before = told.position[runner];
        told.position[runner] = position;
        return before;
    }

    public int official(int race) {
        Race told = findRace(race);
        if (told == null) {
            return UNKNOWN;
        }
        if (told.state != OFF) {
            return STATE;
        }
        told.readFinish();
        if (!told.finish.isRight() || told.finish.count < Math.min(3, told.running)) {
            return STATE;
        }
        told.state = OFFICIAL;
        int settled = 0;
        for (int kind = WIN; kind <= ORDER; kind++) {
            settled += settleIfRipe(pools[poolNumber(race, kind)]);
        }
        return settled + settleIfRipe(pools[THE_DOUBLE]);
    }

    public int raceAt(int race, int what) {
        Race told = findRace(race);
        if (told == null) {
            return UNKNOWN;
        }
        switch (what) {
            case 0:
                return told.state;
            case 1:
                return told.runners;
            case 2:
                return told.running;
            case 3:
                return told.substitute;
            case 4:
                return carriedInto(race);
            default:
                return told.hasRunner(what - 10) ? told.standing(what - 10) : OUTSIDE;
        }
    }

    // ---- tickets

    public int sell(int window, int pool, int a, int b, int c, int units) {
        Pool told = findPool(pool);
        if (!isWindow(window) || told == null) {
            return UNKNOWN;
        }
        if (units < 1 || units > MOST_UNITS) {
            return OUTSIDE;
        }
        int refusal = told.refuseLine(a, b, c);
        if (refusal != FINE) {
            return refusal;
        }
        if (told.hasOut(a, b, c)) {
            return GONE;
        }
        if (told.first.state != SELLING || told.second.state != SELLING) {
            return STATE;
        }
        if (ticketCount >= MOST_TICKETS) {
            return FULL;
        }
        tickets[ticketCount] = new Ticket(told, window, units);
        tickets[ticketCount].begin(a, b, c);
        ticketCount++;
        return ticketCount - 1;
    }

    public int cancel(int ticket) {
        Ticket told = findTicket(ticket);
        if (told == null) {
            return UNKNOWN;
        }
        if (told.state != LIVE || told.pool.first.state != SELLING) {
            return STATE;
        }
        told.end(CANCELLED, CALLED_OFF, told.stake());
        return told.stake();
    }

    public int pay(int ticket) {
        Ticket told = findTicket(ticket);
        if (told == null) {
            return UNKNOWN;
        }
        return told.isPayable() ? payOut(told) : STATE;
    }

    public int ticket(int ticket, int what) {
        Ticket told = findTicket(ticket);
        if (told == null) {
            return UNKNOWN;
        }
        switch (what) {
            case 0:
                return told.pool.number;
            case 1:
                return told.a;
            case 2:
                return told.b;
            case 3:
                return told.c;
            case 4:
                return told.units;
            case 5:
                return told.state;
            case 6:
                return told.window;
            case 7:
                return told.due();
            default:
                return OUTSIDE;
        }
    }

    public int units(int pool, int a, int b, int c) {
        Pool told = findPool(pool);
        if (told == null) {
            return UNKNOWN;
        }
        int refusal = told.refuseLine(a, b, c);
        return refusal != FINE ? refusal : told.live[told.lineOf(a, b, c)];
    }

    public int dividend(int pool, int a, int b, int c) {
        Pool told = findPool(pool);
        if (told == null) {
            return UNKNOWN;
        }
        int refusal = told.refuseLine(a, b, c);
        if (refusal != FINE) {
            return refusal;
        }
        return told.isSettled() ? told.dividends[told.lineOf(a, b, c)] : STATE;
    }

    public int odds(int pool, int a, int b, int c) {
        Pool told = findPool(pool);
        if (told == null || told.kind == DOUBLE) {
            return UNKNOWN;
        }
        Race its = told.first;
        if (!its.hasRunner(a) || !its.hasRunner(b) || (c != 0 && !its.hasRunner(c))) {
            return OUTSIDE;
        }
        if (a == b || a == c || b == c) {
            return SAME;
        }
        if (!its.areRow(a, b, c)) {
            return GONE;
        }
        if (its.state == OFFICIAL) {
            return STATE;
        }
        suppose(its, a, b, c);
        settlement.reckon(told, supposed, supposed);
        return settlement.dividendOf(told.lineOf(a, b, c));
    }

    public int book(int pool, int what) {
        Pool told = findPool(pool);
        if (told == null) {
            return UNKNOWN;
        }
        return what < 0 || what >= BOOK_ENTRIES ? OUTSIDE : told.entries[what];
    }

    public int rest() {
        return theRest;
    }

    public int unclaimed() {
        int sum = 0;
        for (int t = 0; t < ticketCount; t++) {
            if (tickets[t].isPayable()) {
                sum += tickets[t].due();
            }
        }
        return sum;
    }

    public int worst(int race) {
        Race told = findRace(race);
        if (told == null) {
            return UNKNOWN;
        }
        if (told.state == OFFICIAL) {
            return STATE;
        }
        if (told.running < 2) {
            return GONE;
        }
        int mostC = told.running > 2 ? told.runners : 0;
        int worstRow = NONE;
        for (int a = 1; a <= told.runners; a++) {
            for (int b = 1; b <= told.runners; b++) {
                for (int c = Math.min(1, mostC); c <= mostC; c++) {
                    if (told.areRow(a, b, c)) {
                        int due = dueIf(race, told, a, b, c);
                        if (worstRow == NONE || due > mostDue) {
                            mostDue = due;
                            worstRow = 10000 * a + 100 * b + c;
                        }
                    }
                }
            }
        }
        return worstRow;
    }

    public int worstDue() {
        return mostDue;
    }

    public int premium(int window) {
        if (!isWindow(window)) {
            return UNKNOWN;
        }
        long its = 0;
        long all = 0;
        for (int t = 0; t < ticketCount; t++) {
            all += tickets[t].units;
            its += tickets[t].window == window ? tickets[t].units : 0;
        }
        if (all == 0) {
            return found(ZERO);
        }
        return (int) (allDeducted() * its / all);
    }

    // ---- drawers

    public int drawer(int window, int n) {
        if (!isWindow(window)) {
            return UNKNOWN;
        }
        if (n > MOST_SLIPS) {
            return OUTSIDE;
        }
        if (n < 0) {
            return found(SIZE);
        }
        drawers[window].open(n);
        return n;
    }

    public int lose(int window) {
        if (!isWindow(window)) {
            return UNKNOWN;
        }
        int size = drawers[window].size;
        if (size == ABSENT) {
            return found(NULL);
        }
        drawers[window].size = ABSENT;
        return size;
    }

    public int keep(int window, int i, int ticket) {
        if (!isWindow(window) || findTicket(ticket) == null) {
            return UNKNOWN;
        }
        int refusal = refuseSlip(window, i);
        if (refusal != FINE) {
            return refusal;
        }
        drawers[window].slips[i].holdTicket(ticket);
        return 1;
    }

    public int note(int window, int i, long letters, int n) {
        if (!isWindow(window)) {
            return UNKNOWN;
        }
        if (n < 1 || n > MOST_CHARS) {
            return OUTSIDE;
        }
        int refusal = refuseSlip(window, i);
        if (refusal != FINE) {
            return refusal;
        }
        drawers[window].slips[i].holdNote(letters, n);
        return n;
    }

    public int coins(int window, int i, int n) {
        if (!isWindow(window)) {
            return UNKNOWN;
        }
        if (n > MOST_COINS) {
            return OUTSIDE;
        }
        int refusal = refuseSlip(window, i);
        if (refusal != FINE) {
            return refusal;
        }
        if (n < 0) {
            return found(SIZE);
        }
        drawers[window].slips[i].holdCoins(n);
        return n;
    }

    public int clear(int window, int i) {
        int refusal = refuseSlip(window, i);
        if (refusal != FINE) {
            return refusal;
        }
        int before = kindOf(drawers[window].slips[i]);
        drawers[window].slips[i].holdNothing();
        return before;
    }

    public int kind(int window, int i) {
        int refusal = refuseSlip(window, i);
        return refusal != FINE ? refusal : kindOf(drawers[window].slips[i]);
    }

    public int read(int window, int i) {
        int refusal = refuseHeld(window, i, HOLDS_TICKET);
        return refusal != FINE ? refusal : drawers[window].slips[i].ticket;
    }

    public int letter(int window, int i, int k) {
        int refusal = refuseCell(window, i, HOLDS_NOTE, k);
        return refusal != FINE ? refusal : drawers[window].slips[i].cells[k];
    }

    public int coin(int window, int i, int k, int v) {
        int refusal = refuseCell(window, i, HOLDS_COINS, k);
        if (refusal != FINE) {
            return refusal;
        }
        drawers[window].slips[i].cells[k] = v;
        return 1;
    }

    public int coinAt(int window, int i, int k) {
        int refusal = refuseCell(window, i, HOLDS_COINS, k);
        return refusal != FINE ? 0 : drawers[window].slips[i].cells[k];
    }

    public int change(int window, int i, int k, int l) {
        if (refuseCell(window, i, HOLDS_COINS, k) != FINE || refuseCell(window, i, HOLDS_COINS, l) != FINE) {
            return 0;
        }
        int divisor = drawers[window].slips[i].cells[l];
        if (divisor == 0) {
            found(ZERO);
            return 0;
        }
        return drawers[window].slips[i].cells[k] / divisor;
    }

    // ---- satchels

    public int satchel(int s, int form, int n) {
        if (!isSatchel(s)) {
            return UNKNOWN;
        }
        if (form < 0 || form > MOST_FORM || n > MOST_PLACES) {
            return OUTSIDE;
        }
        if (n < 0) {
            return found(SIZE);
        }
        satchels[s].begin(form, n);
        return n;
    }

    public int gather(int s, int at, int window, int i, int n) {
        if (!isSatchel(s) || !isWindow(window)) {
            return UNKNOWN;
        }
        if (n < 0 || n > MOST_SLIPS) {
            return OUTSIDE;
        }
        cameLast = 0;
        for (int k = 0; k < n; k++) {
            int refusal = refuseSlip(window, i + k);
            if (refusal == FINE) {
                refusal = putIn(s, at + k, drawers[window].slips[i + k].brings());
            }
            if (refusal != FINE) {
                return refusal;
            }
            cameLast++;
        }
        return n;
    }

    public int shift(int s, int i, int t, int j, int n) {
        if (!isSatchel(s) || !isSatchel(t)) {
            return UNKNOWN;
        }
        if (n < 0 || n > MOST_PLACES) {
            return OUTSIDE;
        }
        cameLast = 0;
        if (satchels[s].size == ABSENT || satchels[t].size == ABSENT) {
            return found(NULL);
        }
        // s may be t: a place that is written may be one that is still to be read
        System.arraycopy(satchels[s].places, 0, moving, 0, MOST_PLACES);
        for (int k = 0; k < n; k++) {
            int refusal = refusePlace(s, i + k);
            if (refusal == FINE) {
                refusal = putIn(t, j + k, moving[i + k]);
            }
            if (refusal != FINE) {
                return refusal;
            }
            cameLast++;
        }
        return n;
    }

    public int came() {
        return cameLast;
    }

    public int held(int s, int place) {
        if (!isSatchel(s)) {
            return UNKNOWN;
        }
        int refusal = refusePlace(s, place);
        return refusal != FINE ? refusal : satchels[s].places[place];
    }

    public int cash(int s) {
        if (!isSatchel(s)) {
            return UNKNOWN;
        }
        if (satchels[s].size == ABSENT) {
            return found(NULL);
        }
        int sum = 0;
        for (int i = 0; i < satchels[s].size; i++) {
            Ticket its = findTicket(satchels[s].places[i]);
            if (its != null && its.isPayable()) {
                sum += payOut(its);
            }
        }
        return sum;
    }

    // ---- laps

    public int lap(int race, int bits) {
        Race told = findRace(race);
        if (told == null) {
            return UNKNOWN;
        }
        if (told.lapCount >= MOST_LAPS) {
            return FULL;
        }
        told.laps[told.lapCount] = Floats.isNoNumber(bits) ? Floats.NO_NUMBER : bits;
        told.lapCount++;
        return told.lapCount;
    }

    public int lapAt(int race, int k) {
        Race told = findRace(race);
        return told == null || !isLap(told, k) ? 0 : told.laps[k];
    }

    public int pace(int race, int what) {
        Race told = findRace(race);
        if (told == null || what < 0 || what > 4) {
            return 0;
        }
        int numbers = told.countNumbers();
        if (what == 4) {
            return numbers;
        }
        if (numbers == 0) {
            return Floats.NO_NUMBER;
        }
        if (what == 2 || what == 3) {
            return told.extremeLap(what == 3);
        }
        return Floats.quotientBits(told.sumOfNumbers(), what == 1 ? numbers : 1);
    }

    public int remainder(int race, int k, int step) {
        Race told = findRace(race);
        return told == null || !isLap(told, k) ? 0 : Floats.remainderBits(told.laps[k], step);
    }

    // ---- asks

    public int ask(int ticket, int what) {
        bodies.length = 0;
        Ticket told = findTicket(ticket);
        if (told == null) {
            return UNKNOWN;
        }
        if (what == 0) {
            return bodies.weigh(told.pool.kind, told.units);
        }
        return what == 1 ? bodies.score(told.pool.kind, told.units) : OUTSIDE;
    }

    public int trace(int k) {
        return k < 0 || k >= bodies.length ? NONE : bodies.numbers[k];
    }

    public int finding() {
        return latestFinding;
    }

    public int count(int what) {
        switch (what) {
            case 0:
                return raceCount;
            case 1:
                return countPools();
            case 2:
                return ticketCount;
            case 3:
                return countLive();
            case 4:
                return bodies.length;
            case 5:
                return (int) allDeducted();
            default:
                return what >= 10 + NULL && what <= 10 + ZERO ? findings[what - 10] : OUTSIDE;
        }
    }

    public long digest() {
        long h = 17;
        for (int r = 0; r < raceCount; r++) {
            h = 31 * h + races[r].state;
            for (int runner = 1; runner <= races[r].runners; runner++) {
                h = 31 * h + races[r].standing(runner);
            }
            h = 31 * h + carriedInto(r);
        }
        for (int p = 0; p <= THE_DOUBLE; p++) {
            h = pools[p] == null ? h : pools[p].digestOnto(h);
        }
        for (int t = 0; t < ticketCount; t++) {
            h = 31 * h + tickets[t].a;
            h = 31 * h + tickets[t].b;
            h = 31 * h + tickets[t].units;
            h = 31 * h + tickets[t].state;
        }
        return 31 * h + theRest;
    }

    // ---- what the calls above share

    private Race findRace(int race) {
        return race < 0 || race >= raceCount ? null : races[race];
    }

    private Pool findPool(int pool) {
        return pool < 0 || pool > THE_DOUBLE ? null : pools[pool];
    }

    private Ticket findTicket(int ticket) {
        return ticket < 0 || ticket >= ticketCount ? null : tickets[ticket];
    }

    private static int poolNumber(int race, int kind) {
        return KINDS_OF_RACE * race + kind;
    }

    private static boolean isWindow(int window) {
        return window >= 0 && window < WINDOWS;
    }

    private static boolean isSatchel(int s) {
        return s >= 0 && s < SATCHELS;
    }

    private static boolean areTerms(int deduction, int unit) {
        return deduction >= 0 && deduction <= 500 && unit >= 10 && unit <= 1000 && unit % 10 == 0;
    }

    private static int refuseRunner(Race told, int runner, int state) {
        if (told == null) {
            return UNKNOWN;
        }
        if (!told.hasRunner(runner)) {
            return OUTSIDE;
        }
        if (told.isOut(runner)) {
            return GONE;
        }
        return told.state == state ? FINE : STATE;
    }

    private int found(int finding) {
        latestFinding = finding;
        findings[finding]++;
        return -10 - finding;
    }

    private int carriedInto(int race) {
        Pool order = pools[poolNumber(race, ORDER)];
        return order == null ? 0 : order.entries[CARRIED_IN];
    }

    private int settleIfRipe(Pool pool) {
        if (pool == null || pool.isSettled() || pool.first.state != OFFICIAL || pool.second.state != OFFICIAL) {
            return 0;
        }
        settlement.reckon(pool, pool.first.finish, pool.second.finish);
        if (settlement.refunds) {
            refundAll(pool);
        }
        settlement.enterInto(pool);
        carryOn(pool);
        return 1;
    }

    private void refundAll(Pool pool) {
        for (int t = 0; t < ticketCount; t++) {
            if (tickets[t].pool == pool && tickets[t].state == LIVE) {
                tickets[t].refund();
            }
        }
    }

    private void carryOn(Pool pool) {
        int cents = pool.entries[CARRIED_OUT];
        for (int r = pool.number / KINDS_OF_RACE + 1; r < raceCount; r++) {
            Pool order = pools[poolNumber(r, ORDER)];
            if (order != null && races[r].state != OFFICIAL) {
                order.entries[CARRIED_IN] += cents;
                return;
            }
        }
        theRest += cents;
    }

    private static int payOut(Ticket ticket) {
        int due = ticket.due();
        ticket.end(PAID, PAID_OUT, due);
        return due;
    }

    private void suppose(Race race, int a, int b, int c) {
        supposed.begin(race.running);
        supposed.add(a, 1);
        supposed.add(b, 2);
        if (c != 0) {
            supposed.add(c, 3);
        }
    }

    private int dueIf(int race, Race told, int a, int b, int c) {
        suppose(told, a, b, c);
        int due = 0;
        for (int kind = WIN; kind <= ORDER; kind++) {
            Pool pool = pools[poolNumber(race, kind)];
            if (pool != null) {
                settlement.reckon(pool, supposed, supposed);
                due += settlement.due;
            }
        }
        return due;
    }

    private long allDeducted() {
        long sum = 0;
        for (int p = 0; p <= THE_DOUBLE; p++) {
            sum += pools[p] == null ? 0 : pools[p].entries[DEDUCTED];
        }
        return sum;
    }

    private int countPools() {
        int sum = 0;
        for (int p = 0; p <= THE_DOUBLE; p++) {
            sum += pools[p] == null ? 0 : 1;
        }
        return sum;
    }

    private int countLive() {
        int sum = 0;
        for (int t = 0; t < ticketCount; t++) {
            sum += tickets[t].state == LIVE ? 1 : 0;
        }
        return sum;
    }

    private int refuseSlip(int window, int i) {
        if (!isWindow(window)) {
            return UNKNOWN;
        }
        if (drawers[window].size == ABSENT) {
            return found(NULL);
        }
        return i < 0 || i >= drawers[window].size ? found(INDEX) : FINE;
    }

    private int refuseHeld(int window, int i, int what) {
        int refusal = refuseSlip(window, i);
        if (refusal != FINE) {
            return refusal;
        }
        int holds = drawers[window].slips[i].holds;
        if (holds == HOLDS_NOTHING) {
            return found(NULL);
        }
        return holds == what ? FINE : found(CAST);
    }

    private int refuseCell(int window, int i, int what, int k) {
        int refusal = refuseHeld(window, i, what);
        if (refusal != FINE) {
            return refusal;
        }
        return k < 0 || k >= drawers[window].slips[i].length ? found(INDEX) : FINE;
    }

    private int kindOf(Slip slip) {
        Ticket held = findTicket(slip.ticket);
        switch (slip.holds) {
            case HOLDS_TICKET:
                return held == null ? NONE : held.pool.kind;
            case HOLDS_NOTE:
                return 5;
            case HOLDS_COINS:
                return 6;
            default:
                return NONE;
        }
    }

    private int refusePlace(int s, int place) {
        if (satchels[s].size == ABSENT) {
            return found(NULL);
        }
        return place < 0 || place >= satchels[s].size ? found(INDEX) : FINE;
    }

    /** What comes is a TICKET's number, NONE (NOTHING) or NO_TICKET. */
    private int putIn(int s, int place, int what) {
        int refusal = refusePlace(s, place);
        if (refusal != FINE) {
            return refusal;
        }
        Ticket ticket = findTicket(what);
        boolean taken = ticket == null ? what == NONE : satchels[s].takes(ticket.pool.kind);
        if (!taken) {
            return found(STORE);
        }
        satchels[s].places[place] = what;
        return FINE;
    }

    private boolean isLap(Race race, int k) {
        if (k < 0 || k >= race.lapCount) {
            found(INDEX);
            return false;
        }
        return true;
    }

    // ---- the classes

    private static final class Race {
        final int runners;
        final boolean[] out = new boolean[MOST_RUNNERS + 1];
        final int[] position = new int[MOST_RUNNERS + 1];
        final Finish finish = new Finish();
        final int[] laps = new int[MOST_LAPS];
        int lapCount;
        int running;
        int state = SELLING;
        int substitute;

        Race(int runners) {
            this.runners = runners;
            this.running = runners;
        }

        boolean hasRunner(int runner) {
            return runner >= 1 && runner <= runners;
        }

        boolean isOut(int runner) {
            return hasRunner(runner) && out[runner];
        }

        /** Whether these are RUNNERS that can come in first, second and (if c is not 0) third. */
        boolean areRow(int a, int b, int c) {
            return a != b && a != c && b != c && !isOut(a) && !isOut(b) && !isOut(c);
        }

        void takeOut(int runner) {
            out[runner] = true;
            running--;
        }

        /** The POSITION of a RUNNER (0: none), -1 if it is OUT. */
        int standing(int runner) {
            return out[runner] ? -1 : position[runner];
        }

        void readFinish() {
            finish.begin(running);
            for (int runner = 1; runner <= runners; runner++) {
                if (position[runner] > 0) {
                    finish.add(runner, position[runner]);
                }
            }
        }

        int countNumbers() {
            int sum = 0;
            for (int k = 0; k < lapCount; k++) {
                sum += Floats.isNumber(laps[k]) ? 1 : 0;
            }
            return sum;
        }

        float sumOfNumbers() {
            float sum = 0f;
            for (int k = 0; k < lapCount; k++) {
                if (Floats.isNumber(laps[k])) {
                    sum = sum + Floats.toFloat(laps[k]);
                }
            }
            return sum;
        }

        /** The bits kept, not made anew: 0.0 and -0.0 are equal, and the first one counts. */
        int extremeLap(boolean greatest) {
            int best = Floats.NO_NUMBER;
            for (int k = 0; k < lapCount; k++) {
                if (Floats.isNumber(laps[k])) {
                    boolean first = best == Floats.NO_NUMBER;
                    int lesser = greatest ? best : laps[k];
                    int greater = greatest ? laps[k] : best;
                    best = first || Floats.toFloat(lesser) < Floats.toFloat(greater) ? laps[k] : best;
                }
            }
            return best;
        }
    }

    /** RUNNERS with their POSITIONS, as they are or as they are supposed. */
    private static final class Finish {
        final int[] runner = new int[MOST_RUNNERS];
        final int[] position = new int[MOST_RUNNERS];
        int count;
        int running;

        void begin(int running) {
            this.running = running;
            count = 0;
        }

        void add(int runner, int position) {
            if (count < MOST_RUNNERS) {
                this.runner[count] = runner;
                this.position[count] = position;
                count++;
            }
        }

        boolean isRight() {
            for (int i = 0; i < count; i++) {
                int lesser = 0;
                for (int j = 0; j < count; j++) {
                    lesser += position[j] < position[i] ? 1 : 0;
                }
                if (lesser != position[i] - 1) {
                    return false;
                }
            }
            return true;
        }

        /**
         * Whether the one at i can stand in a ROW right behind those at j and k (NONE: there is none).
         * A ROW FITS just if each in it has no lesser POSITION left behind it, in the ROW or outside.
         */
        boolean isNext(int i, int j, int k) {
            for (int other = 0; other < count; other++) {
                if (other != j && other != k && position[other] < position[i]) {
                    return false;
                }
            }
            return i != j && i != k;
        }
    }

    private static final class Pool {
        final int number;
        final int kind;
        final Race first;
        /** Of a POOL of one RACE this is that RACE, too. */
        final Race second;
        final int deduction;
        final int unit;
        /** LIVE UNITS and DIVIDENDS by line, one number for the RUNNERS of a TICKET. */
        final int[] live;
        final int[] dividends;
        final int[] entries = new int[BOOK_ENTRIES];
        int liveUnits;

        Pool(int number, int kind, Race first, Race second, int deduction, int unit) {
            this.number = number;
            this.kind = kind;
            this.first = first;
            this.second = second;
            this.deduction = deduction;
            this.unit = unit;
            int lines = MOST_RUNNERS + 1;
            lines *= kind == WIN || kind == PLACE ? 1 : MOST_RUNNERS + 1;
            lines *= kind == ORDER ? MOST_RUNNERS + 1 : 1;
            live = new int[lines];
            dividends = new int[lines];
        }

        boolean isSettled() {
            return entries[SETTLED] == 1;
        }

        boolean isVoid(int running) {
            switch (kind) {
                case PLACE:
                    return running < 5;
                case PAIR:
                    return running < 2;
                case ORDER:
                    return running < 3;
                default:
                    return false;
            }
        }

        int lineOf(int a, int b, int c) {
            int base = MOST_RUNNERS + 1;
            switch (kind) {
                case PAIR:
                    return a < b ? a * base + b : b * base + a;
                case ORDER:
                    return (a * base + b) * base + c;
                case DOUBLE:
                    return a * base + b;
                default:
                    return a;
            }
        }

        int refuseLine(int a, int b, int c) {
            boolean hasB = kind == WIN || kind == PLACE ? b == 0 : second.hasRunner(b);
            boolean hasC = kind == ORDER ? first.hasRunner(c) : c == 0;
            if (!first.hasRunner(a) || !hasB || !hasC) {
                return OUTSIDE;
            }
            boolean twice = a == b || (kind == ORDER && (a == c || b == c));
            return kind != DOUBLE && twice ? SAME : FINE;
        }

        boolean hasOut(int a, int b, int c) {
            return first.isOut(a) || second.isOut(b) || first.isOut(c);
        }

        void addLive(int line, int units) {
            live[line] += units;
            liveUnits += units;
        }

        long digestOnto(long h) {
            h = 31 * h + number;
            for (int what = 0; what < BOOK_ENTRIES; what++) {
                h = 31 * h + entries[what];
            }
            return h;
        }
    }

    private static final class Ticket {
        final Pool pool;
        final int window;
        final int units;
        int a;
        int b;
        int c;
        int state = LIVE;

        Ticket(Pool pool, int window, int units) {
            this.pool = pool;
            this.window = window;
            this.units = units;
        }

        void begin(int a, int b, int c) {
            boolean turned = pool.kind == PAIR && a > b;
            this.a = turned ? b : a;
            this.b = turned ? a : b;
            this.c = c;
            pool.addLive(line(), units);
            pool.entries[SOLD] += stake();
        }

        int line() {
            return pool.lineOf(a, b, c);
        }

        int stake() {
            return units * pool.unit;
        }

        boolean isPayable() {
            return state == LIVE && pool.isSettled();
        }

        int due() {
            boolean counts = pool.isSettled() && (state == LIVE || state == PAID);
            return counts ? units * pool.dividends[line()] : 0;
        }

        void end(int state, int entry, int cents) {
            pool.addLive(line(), -units);
            pool.entries[entry] += cents;
            this.state = state;
        }

        void refund() {
            end(REFUNDED, GIVEN_BACK, stake());
        }

        boolean isFor(Race race, int runner) {
            if (pool.kind == DOUBLE) {
                return (pool.first == race && a == runner) || (pool.second == race && b == runner);
            }
            return pool.first == race && (a == runner || b == runner || c == runner);
        }

        /** The RUNNER is OUT already, so a SUBSTITUTE that is this RUNNER does not serve. */
        void loseRunner(Race race) {
            if (pool.kind != DOUBLE || race.substitute == 0 || race.isOut(race.substitute)) {
                refund();
                return;
            }
            pool.addLive(line(), -units);
            if (pool.first == race) {
                a = race.substitute;
            } else {
                b = race.substitute;
            }
            pool.addLive(line(), units);
        }
    }

    /** What SETTLING a POOL comes to; it changes nothing before enterInto(). */
    private static final class Settlement {
        /** Each TAKER has a LIVE TICKET of its own, so there are never more of them than TICKETS. */
        final int[] line = new int[MOST_TICKETS];
        final int[] dividend = new int[MOST_TICKETS];
        int takers;
        boolean refunds;
        int deducted;
        int carriedOut;
        int breakage;
        int cost;
        int due;

        void reckon(Pool pool, Finish first, Finish second) {
            takers = 0;
            deducted = 0;
            carriedOut = 0;
            breakage = 0;
            cost = 0;
            due = 0;
            boolean isVoid = pool.isVoid(first.running);
            if (!isVoid) {
                findTakers(pool, first, second);
            }
            refunds = isVoid || (takers == 0 && pool.kind != ORDER);
            if (refunds) {
                carriedOut = pool.entries[CARRIED_IN];
                return;
            }
            int gross = pool.liveUnits * pool.unit;
            deducted = (int) ((long) gross * pool.deduction / 1000);
            int net = gross - deducted + pool.entries[CARRIED_IN];
            if (takers == 0) {
                carriedOut = net;
            } else {
                share(pool, net);
            }
        }

        private void findTakers(Pool pool, Finish first, Finish second) {
            switch (pool.kind) {
                case PLACE:
                    takePlaced(pool, first);
                    break;
                case DOUBLE:
                    takeDoubles(pool, first, second);
                    break;
                default:
                    takeRows(pool, first);
                    break;
            }
        }

        /** A ROW of one, two or three, by KIND, is taken as soon as it is long enough. */
        private void takeRows(Pool pool, Finish finish) {
            for (int i = 0; i < finish.count; i++) {
                if (!finish.isNext(i, NONE, NONE)) {
                    continue;
                }
                if (pool.kind == WIN) {
                    take(pool, finish.runner[i], 0, 0);
                    continue;
                }
                for (int j = 0; j < finish.count; j++) {
                    if (!finish.isNext(j, i, NONE)) {
                        continue;
                    }
                    if (pool.kind == PAIR) {
                        take(pool, finish.runner[i], finish.runner[j], 0);
                        continue;
                    }
                    for (int k = 0; k < finish.count; k++) {
                        if (finish.isNext(k, i, j)) {
                            take(pool, finish.runner[i], finish.runner[j], finish.runner[k]);
                        }
                    }
                }
            }
        }

        private void takePlaced(Pool pool, Finish finish) {
            int last = finish.running < 8 ? 2 : 3;
            for (int i = 0; i < finish.count; i++) {
                if (finish.position[i] <= last) {
                    take(pool, finish.runner[i], 0, 0);
                }
            }
        }

        private void takeDoubles(Pool pool, Finish first, Finish second) {
            for (int i = 0; i < first.count; i++) {
                for (int j = 0; j < second.count; j++) {
                    if (first.isNext(i, NONE, NONE) && second.isNext(j, NONE, NONE)) {
                        take(pool, first.runner[i], second.runner[j], 0);
                    }
                }
            }
        }

        /** A PAIR comes twice when both its ROWS FIT, and is one TAKER. */
        private void take(Pool pool, int a, int b, int c) {
            int its = pool.lineOf(a, b, c);
            if (pool.live[its] > 0 && indexOf(its) == NONE && takers < MOST_TICKETS) {
                line[takers] = its;
                takers++;
            }
        }

        private void share(Pool pool, int net) {
            int base = 0;
            int shared = net;
            if (pool.kind == PLACE) {
                base = pool.unit;
                int gain = net - unitsOfTakers(pool) * pool.unit;
                cost = Math.max(0, -gain);
                shared = Math.max(0, gain);
            }
            for (int i = 0; i < takers; i++) {
                // take() leaves out those of no UNITS; a divisor is made sure of where it divides
                int units = Math.max(pool.live[line[i]], 1);
                dividend[i] = base + shared / takers / units / 10 * 10;
                due += units * dividend[i];
            }
            breakage = net + cost - due;
        }

        private int unitsOfTakers(Pool pool) {
            int sum = 0;
            for (int i = 0; i < takers; i++) {
                sum += pool.live[line[i]];
            }
            return sum;
        }

        private int indexOf(int its) {
            for (int i = 0; i < takers; i++) {
                if (line[i] == its) {
                    return i;
                }
            }
            return NONE;
        }

        int dividendOf(int its) {
            int i = refunds ? NONE : indexOf(its);
            return i == NONE ? 0 : dividend[i];
        }

        void enterInto(Pool pool) {
            for (int i = 0; i < takers; i++) {
                pool.dividends[line[i]] = dividend[i];
            }
            pool.entries[DEDUCTED] = deducted;
            pool.entries[CARRIED_OUT] = carriedOut;
            pool.entries[BREAKAGE] = breakage;
            pool.entries[COST] = cost;
            pool.entries[ALL_DUE] = due;
            pool.entries[SETTLED] = 1;
        }
    }

    /** SLIPS and their cells are made once and used again, for a run keeps all that it ever makes. */
    private static final class Slip {
        final int[] cells = new int[MOST_COINS];
        int holds = HOLDS_NOTHING;
        int ticket = NONE;
        int length;

        void holdNothing() {
            holds = HOLDS_NOTHING;
        }

        void holdTicket(int number) {
            holds = HOLDS_TICKET;
            ticket = number;
        }

        void holdNote(long letters, int n) {
            holds = HOLDS_NOTE;
            length = n;
            for (int k = 0; k < n; k++) {
                cells[k] = (int) (letters >>> 16 * (n - 1 - k)) & 0xFFFF;
            }
        }

        void holdCoins(int n) {
            holds = HOLDS_COINS;
            length = n;
            Arrays.fill(cells, 0);
        }

        int brings() {
            if (holds == HOLDS_NOTHING) {
                return NONE;
            }
            return holds == HOLDS_TICKET ? ticket : NO_TICKET;
        }
    }

    private static final class Drawer {
        final Slip[] slips = new Slip[MOST_SLIPS];
        int size = ABSENT;

        Drawer() {
            for (int i = 0; i < MOST_SLIPS; i++) {
                slips[i] = new Slip();
            }
        }

        void open(int n) {
            size = n;
            for (int i = 0; i < n; i++) {
                slips[i].holdNothing();
            }
        }
    }

    private static final class Satchel {
        final int[] places = new int[MOST_PLACES];
        int form;
        int size = ABSENT;

        void begin(int form, int n) {
            this.form = form;
            size = n;
            Arrays.fill(places, NONE);
        }

        boolean takes(int kind) {
            switch (form) {
                case 1:
                    return kind == WIN || kind == PLACE;
                case 2:
                    return kind == PAIR || kind == ORDER;
                case 3:
                    return kind == ORDER;
                case 4:
                    return kind == DOUBLE;
                case 5:
                    return kind == PLACE;
                default:
                    return true;
            }
        }
    }

    /** THE TRACE, and the BODIES that write it. */
    private static final class Bodies {
        final int[] numbers = new int[MOST_TRACE];
        int length;

        private void write(int body) {
            if (length < MOST_TRACE) {
                numbers[length] = body;
                length++;
            }
        }

        int weigh(int kind, int units) {
            switch (kind) {
                case PLACE:
                    return weighPlace(units);
                case PAIR:
                    return weighPair(units);
                case ORDER:
                    return weighOrder(units);
                case DOUBLE:
                    return weighDouble(units);
                default:
                    return weighWin(units);
            }
        }

        private int weighWin(int units) {
            write(10);
            return units;
        }

        private int weighPlace(int units) {
            write(11);
            return weighWin(units) / 2;
        }

        private int weighPair(int units) {
            write(12);
            return weighWin(units) * 3;
        }

        private int weighOrder(int units) {
            write(13);
            return 2 * weighPair(units);
        }

        private int weighDouble(int units) {
            write(14);
            return weighWin(units) + 1;
        }

        int score(int kind, int units) {
            if (kind == ORDER) {
                write(21);
            }
            if (kind == PLACE) {
                write(22);
            }
            if (kind == PLACE && units == 1) {
                return 3;
            }
            write(20);
            int points = 5 * weigh(kind, units);
            return kind == ORDER ? points - 7 : points;
        }
    }

    /**
     * Floats from bits and back, by arithmetic alone: the library that is allowed has no call for it, nor % on floats.
     * A NUMBER is its mantissa (below 2 to the 24) times 2 to its power (-149 to 104).
     */
    private static final class Floats {
        static final int NO_NUMBER = 0x7FC00000, ENDLESS = 0x7F800000;
        static final int SIGN = 0x80000000, TOP = 0x800000, LEAST_POWER = -149, MOST_POWER = 104;

        static boolean isNumber(int bits) {
            return (bits & ENDLESS) != ENDLESS;
        }

        static boolean isNoNumber(int bits) {
            return (bits & ~SIGN) > ENDLESS;
        }

        private static int mantissa(int bits) {
            int fraction = bits & (TOP - 1);
            return (bits & ENDLESS) == 0 ? fraction : fraction | TOP;
        }

        private static int power(int bits) {
            int exponent = (bits & ENDLESS) >> 23;
            return Math.max(exponent, 1) - 1 + LEAST_POWER;
        }

        /** Each step is exact, for none on the way has more bits below than the NUMBER itself. */
        static float toFloat(int bits) {
            float value = mantissa(bits);
            int power = power(bits);
            for (int p = power; p > 0; p--) {
                value = value * 2f;
            }
            for (int p = power; p < 0; p++) {
                value = value * 0.5f;
            }
            return bits < 0 ? -value : value;
        }

        /** The sign is the dividend's: a quotient that is cut to -0.0 does not show it by a comparison. */
        static int quotientBits(float dividend, int divisor) {
            float size = (dividend < 0f ? -dividend : dividend) / (float) Math.max(divisor, 1);
            return sizeBits(size) | (dividend < 0f ? SIGN : 0);
        }

        private static int sizeBits(float size) {
            if (size > 3.4028235e38f) {
                return ENDLESS;
            }
            float value = size;
            int power = 0;
            while (value >= 2f * TOP && power < MOST_POWER) {
                value = value * 0.5f;
                power++;
            }
            while (value < TOP && power > LEAST_POWER) {
                value = value * 2f;
                power--;
            }
            return pack((int) value, power);
        }

        /** Bits of mantissa times 2 to the power, which are those of a NUMBER. */
        private static int pack(int mantissa, int power) {
            int m = mantissa;
            int p = power;
            while (m < TOP && p > LEAST_POWER) {
                m <<= 1;
                p--;
            }
            return m < TOP ? m : (p - LEAST_POWER + 1) << 23 | (m & (TOP - 1));
        }

        static int remainderBits(int lap, int step) {
            if (!isNumber(lap) || isNoNumber(step) || (step & ~SIGN) == 0) {
                return NO_NUMBER;
            }
            return isNumber(step) ? sizeOfRemainder(lap, step) | (lap & SIGN) : lap;
        }

        private static int sizeOfRemainder(int lap, int step) {
            int above = power(lap) - power(step);
            if (above < 0) {
                // a step of a greater power has a full mantissa, and so is greater than the LAP
                return lap & ~SIGN;
            }
            int divisor = Math.max(mantissa(step), 1);
            int rest = mantissa(lap) % divisor;
            for (int i = 0; i < above; i++) {
                rest = rest * 2 % divisor;
            }
            return pack(rest, power(step));
        }
    }
}
