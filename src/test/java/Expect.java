/** Counts answers, prints each one that is not as due, and ends the test with exit code 1 if there was one. */
final class Expect {
    private static int checks;
    private static int wrong;

    private Expect() {
    }

    static void due(String call, long got, long want) {
        checks++;
        if (got != want) {
            wrong++;
            System.out.println(call + " answered " + got + ", due is " + want);
        }
    }

    static void holds(String what, boolean good) {
        due(what, good ? 1 : 0, 1);
    }

    static void end() {
        System.out.println(checks + " answers, " + wrong + " wrong");
        if (wrong != 0 || checks == 0) {
            System.exit(1);
        }
    }
}
