import java.lang.reflect.Constructor;
import java.lang.reflect.Field;
import java.lang.reflect.Method;
import java.lang.reflect.Modifier;
import java.util.Arrays;
import java.util.Set;
import java.util.TreeSet;
import java.util.stream.Collectors;

/** The public face of the document, and the rules 1, 2, 5 and 11 of LANGUAGE.md as far as a compiled class shows them. */
public final class FaceTest {
    private static final String FACE = """
        race(int) pool(int,int,int,int) twin(int,int,int,int) substitute(int,int) scratch(int,int) off(int)
        place(int,int,int) official(int) raceAt(int,int) sell(int,int,int,int,int,int) cancel(int) pay(int)
        ticket(int,int) units(int,int,int,int) dividend(int,int,int,int) odds(int,int,int,int) book(int,int) rest()
        unclaimed() worst(int) worstDue() premium(int) drawer(int,int) lose(int) keep(int,int,int)
        note(int,int,long,int) coins(int,int,int) clear(int,int) kind(int,int) read(int,int) letter(int,int,int)
        coin(int,int,int,int) coinAt(int,int,int) change(int,int,int,int) satchel(int,int,int)
        gather(int,int,int,int,int) shift(int,int,int,int,int) came() held(int,int) cash(int) lap(int,int)
        lapAt(int,int) pace(int,int) remainder(int,int,int) ask(int,int) trace(int) finding() count(int) digest()
        """;
    private static final Set<String> CONSTANTS =
        Set.of("NONE", "UNKNOWN", "OUTSIDE", "SAME", "GONE", "STATE", "FULL");

    public static void main(String[] args) {
        methods();
        constants();
        classes();
        Expect.end();
    }

    private static void methods() {
        Set<String> want = new TreeSet<>(Arrays.asList(FACE.trim().split("\\s+")));
        Set<String> names = want.stream().map(s -> s.substring(0, s.indexOf('('))).collect(Collectors.toSet());
        Set<String> got = new TreeSet<>();
        for (Method m : ToteHouse.class.getDeclaredMethods()) {
            if (Modifier.isPublic(m.getModifiers())) {
                got.add(signature(m));
                Class<?> answer = m.getName().equals("digest") ? long.class : int.class;
                Expect.holds(m + " answers " + answer, m.getReturnType() == answer);
            } else {
                Expect.holds(m + " is private", Modifier.isPrivate(m.getModifiers()));
                Expect.holds(m + " bears no public name", !names.contains(m.getName()));
            }
        }
        Expect.holds("methods are " + want + ", found " + got, got.equals(want));
        Constructor<?>[] made = ToteHouse.class.getDeclaredConstructors();
        Expect.holds("one public constructor", made.length == 1 && Modifier.isPublic(made[0].getModifiers())
            && made[0].getParameterCount() == 0);
        Expect.holds("final", Modifier.isFinal(ToteHouse.class.getModifiers()));
    }

    private static String signature(Method m) {
        return m.getName() + Arrays.stream(m.getParameterTypes()).map(Class::getName)
            .collect(Collectors.joining(",", "(", ")"));
    }

    private static void constants() {
        Set<String> got = new TreeSet<>();
        for (Field f : ToteHouse.class.getDeclaredFields()) {
            if (Modifier.isPublic(f.getModifiers())) {
                got.add(f.getName());
            } else {
                Expect.holds(f + " is private", Modifier.isPrivate(f.getModifiers()));
            }
        }
        Expect.holds("constants are " + got, got.equals(CONSTANTS));
        int[] values = {ToteHouse.NONE, ToteHouse.UNKNOWN, ToteHouse.OUTSIDE, ToteHouse.SAME, ToteHouse.GONE,
            ToteHouse.STATE, ToteHouse.FULL};
        for (int i = 0; i < values.length; i++) {
            Expect.due("constant " + i, values[i], -1 - i);
        }
    }

    private static void classes() {
        Class<?>[] inside = ToteHouse.class.getDeclaredClasses();
        Expect.holds("at most twelve classes", inside.length + 1 <= 12);
        for (Class<?> c : inside) {
            Expect.holds(c + " is private and static", Modifier.isPrivate(c.getModifiers())
                && Modifier.isStatic(c.getModifiers()));
            Expect.holds(c + " has at most twenty fields", Arrays.stream(c.getDeclaredFields())
                .filter(f -> !Modifier.isStatic(f.getModifiers())).count() <= 20);
            for (Method m : c.getDeclaredMethods()) {
                Expect.holds(m + " has at most seven parameters", m.getParameterCount() <= 7);
                Expect.holds(m + " bears no public name", !(" " + FACE).matches("(?s).*\\s" + m.getName() + "\\(.*"));
            }
        }
        Expect.holds("ToteHouse has at most twenty fields", Arrays.stream(ToteHouse.class.getDeclaredFields())
            .filter(f -> !Modifier.isStatic(f.getModifiers())).count() <= 20);
        Arrays.stream(ToteHouse.class.getDeclaredFields()).filter(f -> Modifier.isStatic(f.getModifiers()))
            .forEach(f -> Expect.holds(f + " is final", Modifier.isFinal(f.getModifiers())));
    }
}
