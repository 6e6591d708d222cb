import java.lang.reflect.Array;
import java.util.ArrayList;
import java.util.Arrays;
import java.util.HashMap;
import java.util.HashSet;
import java.util.LinkedHashMap;
import java.util.List;
import java.util.Map;
import java.util.Set;
import java.util.TreeMap;

/**
 * A second tote, for RandomRunsTest: written from the document's words alone, slowly and with the whole library.
 * FINDINGS are those exceptions that the Java machine itself throws here, on arrays and casts of real classes.
 */
final class PlainTote {
    static final int NONE = -1, UNKNOWN = -2, OUTSIDE = -3, SAME = -4, GONE = -5, STATE = -6, FULL = -7;

    static final class RaceOf {
        int n, state, substitute;
        Set<Integer> out = new HashSet<>();
        Map<Integer, Integer> position = new HashMap<>();
        List<Float> laps = new ArrayList<>();

        int running() {
            return n - out.size();
        }
    }

    static final class PoolOf {
        int number, kind, first, second, deduction, unit, carriedIn;
        Outcome outcome;
    }

    /** What a settlement comes to. */
    static final class Outcome {
        Map<List<Integer>, Integer> dividends = new HashMap<>();
        boolean refunds;
        long deducted, carriedOut, breakage, cost, due;
    }

    private final List<Integer> trace = new ArrayList<>();

    abstract class TicketOf {
        PoolOf pool;
        int number, units, state, window;
        List<Integer> runners;

        int weight() {
            trace.add(10);
            return units;
        }

        int points() {
            trace.add(20);
            return 5 * weight();
        }
    }

    class WinTicket extends TicketOf {
    }

    final class PlaceTicket extends WinTicket {
        @Override
        int weight() {
            trace.add(11);
            return super.weight() / 2;
        }

        @Override
        int points() {
            trace.add(22);
            return units == 1 ? 3 : super.points();
        }
    }

    class PairTicket extends TicketOf {
        @Override
        int weight() {
            trace.add(12);
            return super.weight() * 3;
        }
    }

    final class OrderTicket extends PairTicket {
        @Override
        int weight() {
            trace.add(13);
            return 2 * super.weight();
        }

        @Override
        int points() {
            trace.add(21);
            return super.points() - 7;
        }
    }

    final class DoubleTicket extends TicketOf {
        @Override
        int weight() {
            trace.add(14);
            return super.weight() + 1;
        }
    }

    private static final Class<?>[] FORMS = {
        TicketOf.class, WinTicket.class, PairTicket.class, OrderTicket.class, DoubleTicket.class, PlaceTicket.class};

    private final List<RaceOf> races = new ArrayList<>();
    private final Map<Integer, PoolOf> pools = new TreeMap<>();
    private final List<TicketOf> tickets = new ArrayList<>();
    private final Object[][] drawers = new Object[6][];
    private final Object[][] satchels = new Object[4][];
    private final int[] findings = new int[7];
    private int rest, worstDue, came, finding;

    // ---- the day

    int race(int n) {
        if (n < 2 || n > 12) return OUTSIDE;
        if (races.size() == 12) return FULL;
        RaceOf r = new RaceOf();
        r.n = n;
        races.add(r);
        return races.size() - 1;
    }

    private RaceOf raceOf(int race) {
        return race >= 0 && race < races.size() ? races.get(race) : null;
    }

    private int addPool(int number, int kind, int first, int second, int deduction, int unit) {
        PoolOf p = new PoolOf();
        p.number = number;
        p.kind = kind;
        p.first = first;
        p.second = second;
        p.deduction = deduction;
        p.unit = unit;
        pools.put(number, p);
        return number;
    }

    int pool(int race, int kind, int deduction, int unit) {
        RaceOf r = raceOf(race);
        if (r == null) return UNKNOWN;
        if (kind < 0 || kind > 3) return OUTSIDE;
        if (deduction < 0 || deduction > 500 || unit < 10 || unit > 1000 || unit % 10 != 0) return OUTSIDE;
        if (pools.containsKey(4 * race + kind)) return SAME;
        if (r.state != 0) return STATE;
        return addPool(4 * race + kind, kind, race, race, deduction, unit);
    }

    int twin(int first, int second, int deduction, int unit) {
        if (raceOf(first) == null || raceOf(second) == null) return UNKNOWN;
        if (first >= second) return OUTSIDE;
        if (deduction < 0 || deduction > 500 || unit < 10 || unit > 1000 || unit % 10 != 0) return OUTSIDE;
        if (pools.containsKey(48)) return SAME;
        if (raceOf(first).state != 0 || raceOf(second).state != 0) return STATE;
        return addPool(48, 4, first, second, deduction, unit);
    }

    private static boolean isRunner(RaceOf r, int x) {
        return x >= 1 && x <= r.n;
    }

    int substitute(int race, int runner) {
        RaceOf r = raceOf(race);
        if (r == null) return UNKNOWN;
        if (!isRunner(r, runner)) return OUTSIDE;
        if (r.out.contains(runner)) return GONE;
        if (r.state != 0) return STATE;
        int was = r.substitute;
        r.substitute = runner;
        return was;
    }

    int scratch(int race, int runner) {
        RaceOf r = raceOf(race);
        if (r == null) return UNKNOWN;
        if (!isRunner(r, runner)) return OUTSIDE;
        if (r.out.contains(runner)) return GONE;
        if (r.state != 0) return STATE;
        int many = 0;
        for (TicketOf t : tickets) {
            if (t.state != 0) continue;
            if (t.pool.kind == 4) {
                int leg = t.pool.first == race ? 0 : t.pool.second == race ? 1 : -1;
                if (leg < 0 || t.runners.get(leg) != runner) continue;
                many++;
                boolean serves = r.substitute != 0 && !r.out.contains(r.substitute) && r.substitute != runner;
                if (serves) {
                    t.runners.set(leg, r.substitute);
                } else {
                    t.state = 2;
                }
            } else if (t.pool.first == race && t.runners.contains(runner)) {
                many++;
                t.state = 2;
            }
        }
        r.out.add(runner);
        return many;
    }

    int off(int race) {
        RaceOf r = raceOf(race);
        if (r == null) return UNKNOWN;
        if (r.state != 0) return STATE;
        r.state = 1;
        return r.running();
    }

    int place(int race, int runner, int position) {
        RaceOf r = raceOf(race);
        if (r == null) return UNKNOWN;
        if (!isRunner(r, runner) || position < 0 || position > 12) return OUTSIDE;
        if (r.out.contains(runner)) return GONE;
        if (r.state != 1) return STATE;
        int was = r.position.getOrDefault(runner, 0);
        if (position == 0) {
            r.position.remove(runner);
        } else {
            r.position.put(runner, position);
        }
        return was;
    }

    int official(int race) {
        RaceOf r = raceOf(race);
        if (r == null) return UNKNOWN;
        if (r.state != 1) return STATE;
        for (int p : r.position.values()) {
            if (r.position.values().stream().filter(q -> q < p).count() != p - 1) return STATE;
        }
        if (r.position.size() < 3 && r.position.size() < r.running()) return STATE;
        r.state = 2;
        int many = 0;
        for (PoolOf p : pools.values()) {
            if (p.outcome == null && raceOf(p.first).state == 2 && raceOf(p.second).state == 2) {
                settle(p);
                many++;
            }
        }
        return many;
    }

    private void settle(PoolOf p) {
        Outcome o = outcome(p, raceOf(p.first).position, raceOf(p.second).position);
        p.outcome = o;
        if (o.refunds) {
            for (TicketOf t : tickets) {
                if (t.pool == p && t.state == 0) t.state = 2;
            }
        }
        if (p.kind == 3) {
            for (int r = p.first + 1; r < races.size(); r++) {
                if (pools.containsKey(4 * r + 3) && races.get(r).state != 2) {
                    pools.get(4 * r + 3).carriedIn += (int) o.carriedOut;
                    return;
                }
            }
            rest += (int) o.carriedOut;
        }
    }

    // ---- what wins, literally

    private static List<List<Integer>> rows(Map<Integer, Integer> position, int length) {
        List<List<Integer>> all = new ArrayList<>();
        all.add(new ArrayList<>());
        for (int k = 0; k < length; k++) {
            List<List<Integer>> longer = new ArrayList<>();
            for (List<Integer> row : all) {
                for (int x : position.keySet()) {
                    if (!row.contains(x)) {
                        List<Integer> next = new ArrayList<>(row);
                        next.add(x);
                        longer.add(next);
                    }
                }
            }
            all = longer;
        }
        all.removeIf(row -> !fits(position, row));
        return all;
    }

    private static boolean fits(Map<Integer, Integer> position, List<Integer> row) {
        for (int i = 0; i < row.size(); i++) {
            for (int j = i + 1; j < row.size(); j++) {
                if (position.get(row.get(i)) > position.get(row.get(j))) return false;
            }
        }
        for (int x : position.keySet()) {
            for (int y : row) {
                if (!row.contains(x) && position.get(x) < position.get(y)) return false;
            }
        }
        return true;
    }

    private Set<List<Integer>> winners(PoolOf p, Map<Integer, Integer> one, Map<Integer, Integer> two) {
        Set<List<Integer>> won = new HashSet<>();
        int running = raceOf(p.first).running();
        if (p.kind == 0) {
            for (List<Integer> row : rows(one, 1)) won.add(List.of(row.get(0), 0, 0));
        } else if (p.kind == 1) {
            for (Map.Entry<Integer, Integer> e : one.entrySet()) {
                if (e.getValue() <= (running >= 8 ? 3 : 2)) won.add(List.of(e.getKey(), 0, 0));
            }
        } else if (p.kind == 2) {
            for (List<Integer> row : rows(one, 2)) won.add(line(p, row.get(0), row.get(1), 0));
        } else if (p.kind == 3) {
            won.addAll(rows(one, 3));
        } else {
            for (List<Integer> a : rows(one, 1)) {
                for (List<Integer> b : rows(two, 1)) won.add(List.of(a.get(0), b.get(0), 0));
            }
        }
        return won;
    }

    private boolean isVoid(PoolOf p) {
        int running = raceOf(p.first).running();
        return p.kind == 1 && running < 5 || p.kind == 2 && running < 2 || p.kind == 3 && running < 3;
    }

    private Outcome outcome(PoolOf p, Map<Integer, Integer> one, Map<Integer, Integer> two) {
        Outcome o = new Outcome();
        long gross = 0;
        Map<List<Integer>, Long> units = new LinkedHashMap<>();
        for (TicketOf t : tickets) {
            if (t.pool == p && t.state == 0) {
                gross += (long) t.units * p.unit;
                units.merge(List.copyOf(t.runners), (long) t.units, Long::sum);
            }
        }
        Set<List<Integer>> takers = winners(p, one, two);
        takers.retainAll(units.keySet());
        if (isVoid(p)) {
            o.refunds = true;
            o.carriedOut = p.carriedIn;
            return o;
        }
        if (takers.isEmpty() && p.kind != 3) {
            o.refunds = true;
            return o;
        }
        o.deducted = gross * p.deduction / 1000;
        long net = gross - o.deducted + p.carriedIn;
        if (takers.isEmpty()) {
            o.carriedOut = net;
            return o;
        }
        long gain = net;
        if (p.kind == 1) {
            for (List<Integer> taker : takers) gain -= units.get(taker) * p.unit;
        }
        if (gain < 0) o.cost = -gain;
        long left = net + o.cost;
        for (List<Integer> taker : takers) {
            long share = gain < 0 ? 0 : gain / takers.size();
            long dividend = share / units.get(taker);
            dividend -= dividend % 10;
            if (p.kind == 1) dividend += p.unit;
            o.dividends.put(taker, (int) dividend);
            o.due += dividend * units.get(taker);
        }
        o.breakage = left - o.due;
        return o;
    }

    int raceAt(int race, int what) {
        RaceOf r = raceOf(race);
        if (r == null) return UNKNOWN;
        if (what == 0) return r.state;
        if (what == 1) return r.n;
        if (what == 2) return r.running();
        if (what == 3) return r.substitute;
        if (what == 4) return pools.containsKey(4 * race + 3) ? pools.get(4 * race + 3).carriedIn : 0;
        if (what < 11 || what > 10 + r.n) return OUTSIDE;
        return r.out.contains(what - 10) ? -1 : r.position.getOrDefault(what - 10, 0);
    }

    // ---- tickets

    private int lineRefusal(PoolOf p, int a, int b, int c) {
        RaceOf one = raceOf(p.first);
        RaceOf two = raceOf(p.second);
        if (!isRunner(one, a)) return OUTSIDE;
        if (p.kind < 2 ? b != 0 : !isRunner(two, b)) return OUTSIDE;
        if (p.kind == 3 ? !isRunner(one, c) : c != 0) return OUTSIDE;
        if (p.kind == 2 && a == b) return SAME;
        if (p.kind == 3 && (a == b || b == c || a == c)) return SAME;
        return 0;
    }

    private static List<Integer> line(PoolOf p, int a, int b, int c) {
        return p.kind == 2 ? List.of(Math.min(a, b), Math.max(a, b), 0) : List.of(a, b, c);
    }

    int sell(int window, int pool, int a, int b, int c, int units) {
        PoolOf p = pools.get(pool);
        if (window < 0 || window > 5 || p == null) return UNKNOWN;
        if (units < 1 || units > 1000) return OUTSIDE;
        int refusal = lineRefusal(p, a, b, c);
        if (refusal != 0) return refusal;
        RaceOf one = raceOf(p.first);
        RaceOf two = raceOf(p.second);
        if (one.out.contains(a) || two.out.contains(b) || one.out.contains(c)) return GONE;
        if (one.state != 0 || two.state != 0) return STATE;
        if (tickets.size() == 200) return FULL;
        TicketOf t = p.kind == 0 ? new WinTicket() : p.kind == 1 ? new PlaceTicket()
            : p.kind == 2 ? new PairTicket() : p.kind == 3 ? new OrderTicket() : new DoubleTicket();
        t.number = tickets.size();
        t.pool = p;
        t.window = window;
        t.units = units;
        t.runners = new ArrayList<>(line(p, a, b, c));
        tickets.add(t);
        return t.number;
    }

    private TicketOf ticketOf(int ticket) {
        return ticket >= 0 && ticket < tickets.size() ? tickets.get(ticket) : null;
    }

    int cancel(int ticket) {
        TicketOf t = ticketOf(ticket);
        if (t == null) return UNKNOWN;
        if (t.state != 0 || raceOf(t.pool.first).state != 0) return STATE;
        t.state = 1;
        return t.units * t.pool.unit;
    }

    private static int due(TicketOf t) {
        if (t.pool.outcome == null || t.state == 1 || t.state == 2) return 0;
        return t.units * t.pool.outcome.dividends.getOrDefault(t.runners, 0);
    }

    int pay(int ticket) {
        TicketOf t = ticketOf(ticket);
        if (t == null) return UNKNOWN;
        if (t.state != 0 || t.pool.outcome == null) return STATE;
        t.state = 3;
        return due(t);
    }

    int ticket(int ticket, int what) {
        TicketOf t = ticketOf(ticket);
        if (t == null) return UNKNOWN;
        if (what < 0 || what > 7) return OUTSIDE;
        return new int[] {t.pool.number, t.runners.get(0), t.runners.get(1), t.runners.get(2),
            t.units, t.state, t.window, due(t)}[what];
    }

    int units(int pool, int a, int b, int c) {
        PoolOf p = pools.get(pool);
        if (p == null) return UNKNOWN;
        int refusal = lineRefusal(p, a, b, c);
        if (refusal != 0) return refusal;
        return tickets.stream().filter(t -> t.pool == p && t.state == 0 && t.runners.equals(line(p, a, b, c)))
            .mapToInt(t -> t.units).sum();
    }

    int dividend(int pool, int a, int b, int c) {
        PoolOf p = pools.get(pool);
        if (p == null) return UNKNOWN;
        int refusal = lineRefusal(p, a, b, c);
        if (refusal != 0) return refusal;
        return p.outcome == null ? STATE : p.outcome.dividends.getOrDefault(line(p, a, b, c), 0);
    }

    private static Map<Integer, Integer> supposed(int a, int b, int c) {
        Map<Integer, Integer> position = new HashMap<>(Map.of(a, 1, b, 2));
        if (c != 0) position.put(c, 3);
        return position;
    }

    int odds(int pool, int a, int b, int c) {
        PoolOf p = pools.get(pool);
        if (p == null || p.kind == 4) return UNKNOWN;
        RaceOf r = raceOf(p.first);
        if (!isRunner(r, a) || !isRunner(r, b) || c != 0 && !isRunner(r, c)) return OUTSIDE;
        if (a == b || b == c || a == c) return SAME;
        if (r.out.contains(a) || r.out.contains(b) || r.out.contains(c)) return GONE;
        if (r.state == 2) return STATE;
        List<Integer> its = p.kind < 2 ? List.of(a, 0, 0) : p.kind == 2 ? line(p, a, b, 0) : List.of(a, b, c);
        return outcome(p, supposed(a, b, c), Map.of()).dividends.getOrDefault(its, 0);
    }

    int book(int pool, int what) {
        PoolOf p = pools.get(pool);
        if (p == null) return UNKNOWN;
        if (what < 0 || what > 10) return OUTSIDE;
        long[] stakes = new long[4];
        long paid = 0;
        for (TicketOf t : tickets) {
            if (t.pool == p) {
                stakes[t.state] += (long) t.units * p.unit;
                if (t.state == 3) paid += due(t);
            }
        }
        Outcome o = p.outcome == null ? new Outcome() : p.outcome;
        return (int) new long[] {Arrays.stream(stakes).sum(), stakes[1], stakes[2], o.deducted, p.carriedIn,
            o.carriedOut, o.breakage, o.cost, o.due, paid, p.outcome == null ? 0 : 1}[what];
    }

    int rest() {
        return rest;
    }

    int unclaimed() {
        return tickets.stream().filter(t -> t.state == 0).mapToInt(PlainTote::due).sum();
    }

    int worst(int race) {
        RaceOf r = raceOf(race);
        if (r == null) return UNKNOWN;
        if (r.state == 2) return STATE;
        if (r.running() < 2) return GONE;
        long most = -1;
        int row = 0;
        for (int k = 10000; k <= 121212; k++) {
            int a = k / 10000;
            int b = k / 100 % 100;
            int c = k % 100;
            boolean right = isRunner(r, a) && isRunner(r, b) && (r.running() == 2 ? c == 0 : isRunner(r, c));
            if (!right || a == b || b == c || a == c) continue;
            if (r.out.contains(a) || r.out.contains(b) || r.out.contains(c)) continue;
            long due = 0;
            for (int kind = 0; kind < 4; kind++) {
                PoolOf p = pools.get(4 * race + kind);
                if (p != null) due += outcome(p, supposed(a, b, c), Map.of()).due;
            }
            if (due > most) {
                most = due;
                row = k;
            }
        }
        worstDue = (int) most;
        return row;
    }

    int worstDue() {
        return worstDue;
    }

    private long deducted() {
        return pools.values().stream().filter(p -> p.outcome != null).mapToLong(p -> p.outcome.deducted).sum();
    }

    int premium(int window) {
        if (window < 0 || window > 5) return UNKNOWN;
        long all = tickets.stream().mapToLong(t -> t.units).sum();
        long its = tickets.stream().filter(t -> t.window == window).mapToLong(t -> t.units).sum();
        try {
            return (int) (deducted() * its / all);
        } catch (ArithmeticException e) {
            return found(e);
        }
    }

    // ---- drawers

    private int found(RuntimeException e) {
        finding = e instanceof NullPointerException ? 1 : e instanceof IndexOutOfBoundsException ? 2
            : e instanceof ClassCastException ? 3 : e instanceof ArrayStoreException ? 4
            : e instanceof NegativeArraySizeException ? 5 : e instanceof ArithmeticException ? 6 : 0;
        findings[finding]++;
        return -10 - finding;
    }

    private static boolean isWindow(int window) {
        return window >= 0 && window < 6;
    }

    int drawer(int window, int n) {
        if (!isWindow(window)) return UNKNOWN;
        if (n > 12) return OUTSIDE;
        try {
            drawers[window] = new Object[n];
            return n;
        } catch (NegativeArraySizeException e) {
            return found(e);
        }
    }

    int lose(int window) {
        if (!isWindow(window)) return UNKNOWN;
        try {
            int n = drawers[window].length;
            drawers[window] = null;
            return n;
        } catch (NullPointerException e) {
            return found(e);
        }
    }

    private int store(int window, int i, Object what, int answer) {
        try {
            drawers[window][i] = what;
            return answer;
        } catch (RuntimeException e) {
            return found(e);
        }
    }

    int keep(int window, int i, int ticket) {
        if (!isWindow(window) || ticketOf(ticket) == null) return UNKNOWN;
        return store(window, i, ticketOf(ticket), 1);
    }

    int note(int window, int i, long letters, int n) {
        if (!isWindow(window)) return UNKNOWN;
        if (n < 1 || n > 4) return OUTSIDE;
        char[] chars = new char[n];
        for (int k = n - 1; k >= 0; k--) {
            chars[k] = (char) letters;
            letters >>= 16;
        }
        return store(window, i, chars, n);
    }

    int coins(int window, int i, int n) {
        if (!isWindow(window)) return UNKNOWN;
        if (n > 8) return OUTSIDE;
        try {
            Object was = drawers[window][i];
            drawers[window][i] = new int[n];
            return n;
        } catch (RuntimeException e) {
            return found(e);
        }
    }

    int clear(int window, int i) {
        int was = kind(window, i);
        if (was >= NONE) drawers[window][i] = null;
        return was;
    }

    int kind(int window, int i) {
        if (!isWindow(window)) return UNKNOWN;
        try {
            Object o = drawers[window][i];
            return o == null ? NONE : o instanceof TicketOf t ? t.pool.kind : o instanceof char[] ? 5 : 6;
        } catch (RuntimeException e) {
            return found(e);
        }
    }

    int read(int window, int i) {
        if (!isWindow(window)) return UNKNOWN;
        try {
            return ((TicketOf) drawers[window][i]).number;
        } catch (RuntimeException e) {
            return found(e);
        }
    }

    int letter(int window, int i, int k) {
        if (!isWindow(window)) return UNKNOWN;
        try {
            return ((char[]) drawers[window][i])[k];
        } catch (RuntimeException e) {
            return found(e);
        }
    }

    int coin(int window, int i, int k, int v) {
        if (!isWindow(window)) return UNKNOWN;
        try {
            ((int[]) drawers[window][i])[k] = v;
            return 1;
        } catch (RuntimeException e) {
            return found(e);
        }
    }

    int coinAt(int window, int i, int k) {
        if (!isWindow(window)) return 0;
        try {
            return ((int[]) drawers[window][i])[k];
        } catch (RuntimeException e) {
            found(e);
            return 0;
        }
    }

    int change(int window, int i, int k, int l) {
        if (!isWindow(window)) return 0;
        try {
            return ((int[]) drawers[window][i])[k] / ((int[]) drawers[window][i])[l];
        } catch (RuntimeException e) {
            found(e);
            return 0;
        }
    }

    // ---- satchels

    int satchel(int s, int form, int n) {
        if (s < 0 || s > 3) return UNKNOWN;
        if (form < 0 || form > 5 || n > 10) return OUTSIDE;
        try {
            satchels[s] = (Object[]) Array.newInstance(FORMS[form], n);
            return n;
        } catch (NegativeArraySizeException e) {
            return found(e);
        }
    }

    int gather(int s, int at, int window, int i, int n) {
        if (s < 0 || s > 3 || !isWindow(window)) return UNKNOWN;
        if (n < 0 || n > 12) return OUTSIDE;
        came = 0;
        try {
            for (int k = 0; k < n; k++) {
                satchels[s][at + k] = drawers[window][i + k];
                came++;
            }
            return n;
        } catch (RuntimeException e) {
            return found(e);
        }
    }

    int shift(int s, int i, int t, int j, int n) {
        if (s < 0 || s > 3 || t < 0 || t > 3) return UNKNOWN;
        if (n < 0 || n > 10) return OUTSIDE;
        came = 0;
        try {
            Object[] from = satchels[s].clone();
            Object[] to = satchels[t].length < 0 ? null : satchels[t];
            for (int k = 0; k < n; k++) {
                to[j + k] = from[i + k];
                came++;
            }
            return n;
        } catch (RuntimeException e) {
            return found(e);
        }
    }

    int came() {
        return came;
    }

    int held(int s, int place) {
        if (s < 0 || s > 3) return UNKNOWN;
        try {
            return satchels[s][place] == null ? NONE : ((TicketOf) satchels[s][place]).number;
        } catch (RuntimeException e) {
            return found(e);
        }
    }

    int cash(int s) {
        if (s < 0 || s > 3) return UNKNOWN;
        try {
            int sum = 0;
            for (Object o : satchels[s]) {
                if (o != null) sum += Math.max(0, pay(((TicketOf) o).number));
            }
            return sum;
        } catch (NullPointerException e) {
            return found(e);
        }
    }

    // ---- laps

    int lap(int race, int bits) {
        RaceOf r = raceOf(race);
        if (r == null) return UNKNOWN;
        if (r.laps.size() == 12) return FULL;
        r.laps.add(Float.intBitsToFloat(bits));
        return r.laps.size();
    }

    int lapAt(int race, int k) {
        if (raceOf(race) == null) return 0;
        try {
            return Float.floatToIntBits(raceOf(race).laps.get(k));
        } catch (IndexOutOfBoundsException e) {
            found(e);
            return 0;
        }
    }

    int pace(int race, int what) {
        if (raceOf(race) == null || what < 0 || what > 4) return 0;
        int many = 0;
        float sum = 0f;
        float least = Float.NaN;
        float greatest = Float.NaN;
        for (float f : raceOf(race).laps) {
            if (!Float.isFinite(f)) continue;
            if (many == 0 || f < least) least = f;
            if (many == 0 || f > greatest) greatest = f;
            many++;
            sum += f;
        }
        if (what == 4) return many;
        if (many == 0) return 0x7FC00000;
        return Float.floatToIntBits(new float[] {sum, sum / many, least, greatest}[what]);
    }

    int remainder(int race, int k, int step) {
        if (raceOf(race) == null) return 0;
        try {
            return Float.floatToIntBits(raceOf(race).laps.get(k) % Float.intBitsToFloat(step));
        } catch (IndexOutOfBoundsException e) {
            found(e);
            return 0;
        }
    }

    // ---- asks

    int ask(int ticket, int what) {
        trace.clear();
        TicketOf t = ticketOf(ticket);
        if (t == null) return UNKNOWN;
        if (what != 0 && what != 1) return OUTSIDE;
        return what == 0 ? t.weight() : t.points();
    }

    int trace(int k) {
        return k >= 0 && k < trace.size() ? trace.get(k) : NONE;
    }

    int finding() {
        return finding;
    }

    int count(int what) {
        if (what == 0) return races.size();
        if (what == 1) return pools.size();
        if (what == 2) return tickets.size();
        if (what == 3) return (int) tickets.stream().filter(t -> t.state == 0).count();
        if (what == 4) return trace.size();
        if (what == 5) return (int) deducted();
        return what >= 11 && what <= 16 ? findings[what - 10] : OUTSIDE;
    }

    long digest() {
        List<Integer> all = new ArrayList<>();
        for (int r = 0; r < races.size(); r++) {
            all.add(races.get(r).state);
            for (int i = 1; i <= races.get(r).n; i++) all.add(raceAt(r, 10 + i));
            all.add(raceAt(r, 4));
        }
        for (int p : pools.keySet()) {
            all.add(p);
            for (int what = 0; what <= 10; what++) all.add(book(p, what));
        }
        for (TicketOf t : tickets) all.addAll(List.of(t.runners.get(0), t.runners.get(1), t.units, t.state));
        all.add(rest);
        long h = 17;
        for (int x : all) h = 31 * h + x;
        return h;
    }
}
