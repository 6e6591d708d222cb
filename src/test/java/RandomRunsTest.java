import java.lang.reflect.InvocationTargetException;
import java.lang.reflect.Method;
import java.util.ArrayList;
import java.util.Arrays;
import java.util.HashMap;
import java.util.List;
import java.util.Map;
import java.util.Random;

/** Runs of calls by fixed seeds, sensible and wild ones mixed, answered by ToteHouse and by PlainTote alike. */
public final class RandomRunsTest {
    private static final int CALLS = 512;

    /** Each call with what its arguments are. */
    private static final String[] CALL_FORMS = {
        "race n", "pool race kind deduction unit", "twin race race deduction unit", "substitute race runner",
        "scratch race runner", "off race", "place race runner position", "official race", "raceAt race raceWhat",
        "sell window pool runner runner runner units", "cancel ticket", "pay ticket", "ticket ticket ticketWhat",
        "units pool runner runner runner", "dividend pool runner runner runner", "odds pool runner runner runner",
        "book pool bookWhat", "rest", "unclaimed", "worst race", "worstDue", "premium window", "drawer window slips",
        "lose window", "keep window slip ticket", "note window slip letters chars", "coins window slip coinCount",
        "clear window slip", "kind window slip", "read window slip", "letter window slip char",
        "coin window slip cell value", "coinAt window slip cell", "change window slip cell cell",
        "satchel satchel form places", "gather satchel at window slip slips", "shift satchel at satchel at places",
        "came", "held satchel at", "cash satchel", "lap race bits", "lapAt race cell", "pace race paceWhat",
        "remainder race cell bits", "ask ticket askWhat", "trace cell", "finding", "count countWhat", "digest"};

    private static final Map<String, Method> OF_HOUSE = methods(ToteHouse.class);
    private static final Map<String, Method> OF_MODEL = methods(PlainTote.class);

    private final Random random;
    private final int mostRunners;
    private final int edgeOdds;
    private final boolean shops;
    private final ToteHouse house = new ToteHouse();
    private final PlainTote model = new PlainTote();
    private final List<String> run = new ArrayList<>();
    private int wrong;

    private RandomRunsTest(long seed) {
        random = new Random(seed);
        mostRunners = seed % 8 == 0 ? 12 : 2 + random.nextInt(6);
        edgeOdds = seed % 10 == 0 ? 4 : 40;
        shops = random.nextInt(4) != 0;
    }

    private static Map<String, Method> methods(Class<?> type) {
        Map<String, Method> all = new HashMap<>();
        for (Method m : type.getDeclaredMethods()) {
            boolean isCall = Arrays.stream(CALL_FORMS).anyMatch(form -> form.split(" ")[0].equals(m.getName()));
            if (isCall) {
                m.setAccessible(true);
                all.put(m.getName(), m);
            }
        }
        return all;
    }

    public static void main(String[] args) {
        int runs = args.length > 0 ? Integer.parseInt(args[0]) : 1500;
        int wrongRuns = 0;
        for (int seed = 0; seed < runs && wrongRuns < 3; seed++) {
            RandomRunsTest test = new RandomRunsTest(seed);
            test.go();
            wrongRuns += test.wrong > 0 ? 1 : 0;
        }
        Expect.due("runs of another answer than the plain tote's", wrongRuns, 0);
        Expect.end();
    }

    private void go() {
        int races = 1 + random.nextInt(4);
        for (int i = 0; i < races; i++) {
            call("race", 2 + random.nextInt(mostRunners - 1));
            for (int kind = 0; kind < 4; kind++) {
                if (random.nextInt(5) != 0) call("pool", i, kind, random.nextInt(501), 10 * (1 + random.nextInt(100)));
            }
        }
        if (races > 1) call("twin", 0, 1 + random.nextInt(races - 1), random.nextInt(501), 10);
        while (run.size() < CALLS - 30 && wrong == 0) {
            step();
        }
        call("digest");
        moneyIsKept();
    }

    /** What the document's words on money come to, whatever the plain tote says: no cent is made or lost. */
    private void moneyIsKept() {
        long carried = house.rest();
        long unclaimed = house.unclaimed();
        for (int pool = 0; pool <= 48; pool++) {
            long[] book = new long[11];
            for (int what = 0; what < book.length; what++) {
                book[what] = Math.max(0, house.book(pool, what));
            }
            carried += book[4] - book[5];
            unclaimed -= book[10] == 1 ? book[8] - book[9] : 0;
            long in = book[0] - book[1] - book[2] + book[4] + book[7];
            requireKept("POOL " + pool, book[10] == 1 ? in - book[3] - book[5] - book[6] - book[8] : 0);
        }
        requireKept("CARRIED", carried);
        requireKept("unclaimed", unclaimed);
    }

    private void requireKept(String what, long left) {
        if (left != 0) {
            wrong++;
            run.forEach(System.out::println);
            System.out.println(what + " leaves " + left + ", due is 0");
        }
    }

    private void step() {
        int dice = random.nextInt(100);
        if (dice < 22 && shops) {
            sellWell();
        } else if (dice == 22 && run.size() > 200) {
            finish(number("race"));
        } else if (dice == 23) {
            call("digest");
        } else {
            String form = CALL_FORMS[random.nextInt(CALL_FORMS.length)];
            boolean rare = form.startsWith("official") || form.startsWith("off ") || form.startsWith("scratch")
                || form.startsWith("lose") || form.startsWith("drawer") || form.startsWith("satchel");
            if (rare && random.nextInt(3) != 0) return;
            wildCall(form);
        }
    }

    private void wildCall(String form) {
        String[] words = form.split(" ");
        Object[] args = new Object[words.length - 1];
        for (int i = 1; i < words.length; i++) {
            args[i - 1] = words[i].equals("letters") ? (Object) random.nextLong() : (Object) number(words[i]);
        }
        call(words[0], args);
    }

    private void sellWell() {
        int races = model.count(0);
        int pool = random.nextInt(4) == 0 ? 48 : random.nextInt(4 * races);
        int kind = pool == 48 ? 4 : pool % 4;
        int a = 1 + random.nextInt(mostRunners);
        int b = 1 + random.nextInt(mostRunners);
        int c = 1 + random.nextInt(mostRunners);
        int units = random.nextInt(6) == 0 ? 1 + random.nextInt(1000) : 1 + random.nextInt(20);
        call("sell", random.nextInt(6), pool, a, kind < 2 ? 0 : b, kind == 3 ? c : 0, units);
    }

    /** POSITIONS that are RIGHT, with dead heats. */
    private void finish(int race) {
        call("off", race);
        List<Integer> left = new ArrayList<>();
        for (int i = 1; i <= Math.max(0, model.raceAt(race, 1)); i++) left.add(i);
        left.removeIf(i -> model.raceAt(race, 10 + i) < 0);
        int position = 1;
        int placed = 0;
        int wanted = Math.min(left.size(), 3 + random.nextInt(3));
        while (!left.isEmpty() && placed < wanted) {
            int heat = random.nextInt(3) == 0 ? 1 + random.nextInt(left.size()) : 1;
            for (int i = 0; i < heat; i++) {
                call("place", race, left.remove(random.nextInt(left.size())), position);
                placed++;
            }
            position += heat;
        }
        call("official", race);
        call("unclaimed");
    }

    private int number(String what) {
        if (random.nextInt(edgeOdds) == 0) {
            int[] edges = {-1, 0, 1, 2, 12, 13, 48, 49, 200, Integer.MAX_VALUE, Integer.MIN_VALUE};
            return edges[random.nextInt(edges.length)];
        }
        switch (what) {
            case "n": return random.nextInt(mostRunners + 2);
            case "race": return random.nextInt(model.count(0) + (random.nextInt(8) == 0 ? 1 : 0));
            case "kind": return random.nextInt(5);
            case "deduction": return random.nextInt(510);
            case "unit": return 10 * random.nextInt(102) + random.nextInt(2);
            case "runner": return random.nextInt(mostRunners + 1);
            case "position": return random.nextInt(6);
            case "raceWhat": return random.nextInt(12 + mostRunners);
            case "window": return random.nextInt(random.nextInt(9) == 0 ? 7 : 2);
            case "pool": return random.nextInt(8) == 0 ? 48 : random.nextInt(4 * model.count(0) + 1);
            case "units": return random.nextInt(20);
            case "ticket": return random.nextInt(model.count(2) + 1);
            case "ticketWhat": return random.nextInt(9);
            case "bookWhat": return random.nextInt(12);
            case "slips": return random.nextInt(15) - 1;
            case "slip": return random.nextInt(6) - (random.nextInt(5) == 0 ? 1 : 0);
            case "chars": return random.nextInt(6);
            case "char": return random.nextInt(4);
            case "coinCount": return random.nextInt(11) - 1;
            case "cell": return random.nextInt(6) - (random.nextInt(5) == 0 ? 1 : 0);
            case "value": return random.nextInt(3) == 0 ? -1 : random.nextInt(3) == 0 ? Integer.MIN_VALUE : random.nextInt(9);
            case "satchel": return random.nextInt(random.nextInt(9) == 0 ? 5 : 3);
            case "form": return random.nextInt(7);
            case "places": return random.nextInt(8) == 0 ? 11 : random.nextInt(7) - 1;
            case "at": return random.nextInt(6) - (random.nextInt(5) == 0 ? 1 : 0);
            case "bits": return bits();
            case "paceWhat": return random.nextInt(6);
            case "askWhat": return random.nextInt(random.nextInt(5) == 0 ? 3 : 2);
            case "countWhat": return random.nextInt(18);
            default: throw new IllegalArgumentException(what);
        }
    }

    private int bits() {
        switch (random.nextInt(8)) {
            case 0: return random.nextInt();
            case 1: return random.nextInt(20) | (random.nextBoolean() ? Integer.MIN_VALUE : 0);
            case 2: return 0x7F7FFFFF - random.nextInt(3) | (random.nextBoolean() ? Integer.MIN_VALUE : 0);
            case 3: return 0x7F800000 + random.nextInt(2);
            case 4: return 0x00800000 - 2 + random.nextInt(4);
            default: return Float.floatToIntBits((random.nextInt(400) - 100) / 10f);
        }
    }

    private void call(String name, Object... args) {
        if (wrong > 0) return;
        long got = answer(OF_HOUSE.get(name), house, args);
        long want = answer(OF_MODEL.get(name), model, args);
        run.add(name + Arrays.toString(args) + " = " + got);
        if (got != want) {
            wrong++;
            run.forEach(System.out::println);
            System.out.println("due is " + want);
        }
    }

    private static long answer(Method method, Object on, Object[] args) {
        try {
            return ((Number) method.invoke(on, args)).longValue();
        } catch (InvocationTargetException e) {
            e.getCause().printStackTrace(System.out);
            return Long.MIN_VALUE + on.getClass().getName().length();
        } catch (IllegalAccessException e) {
            throw new IllegalStateException(e);
        }
    }
}
