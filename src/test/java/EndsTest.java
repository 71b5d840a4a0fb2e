import java.util.function.IntSupplier;
import java.util.function.Supplier;

/**
 * LANGUAGE.md, rule 7: "No call may ever throw or fail to end, for any arguments in any state". This holds
 * past the 512th call too, where the answers are free: so no answer is looked at here, only that there is one.
 * That a call fails to end is seen by Due.
 */
public final class EndsTest {
    private static final int[] EDGES = {
        Integer.MIN_VALUE, Integer.MIN_VALUE + 1, -200001, -200000, -100001, -100000, -1001, -1000, -513, -512, -257, -256, -31, -30,
        -2, -1, 0, 1, 2, 3, 4, 5, 6, 7, 8, 29, 30, 31, 239, 240, 241, 254, 255, 256, 511, 512, 513, 999, 1000, 1001, 4316, 4317,
        1 << 16, 1 << 30, Integer.MAX_VALUE - 1, Integer.MAX_VALUE};
    private static final int METHODS = 12;

    private static final Due due = new Due();
    private static long seed = 20261116L;

    public static void main(String[] args) {
        due.test("any arguments, of the constructor first", EndsTest::everyConstructor);
        due.test("any arguments, on a new object", () -> everyCallIn("new", EndsTest::fresh));
        due.test("any arguments, after an update at 1", () -> everyCallIn("time 1", () -> updated(1, 1)));
        due.test("any arguments, after updates at each time up to 239", () -> everyCallIn("time 239", () -> updated(239, 1)));
        due.test("any arguments, after updates at each time", () -> everyCallIn("time 240", () -> updated(240, 1)));
        due.test("any arguments, after one update at 240", () -> everyCallIn("time 240 alone", () -> updated(240, 240)));
        due.test("any state, also after the 512th call", EndsTest::longRuns);
        due.end();
    }

    private static RoundArchive fresh() {
        return new RoundArchive(1, 5, 7);
    }

    private static RoundArchive updated(int last, int apart) {
        RoundArchive x = fresh();
        x.shape(0, Due.packed(4, RoundArchive.MEAN, 3, 8));
        for (int t = apart; t <= last; t += apart) {
            x.update(t, 200 * t % 256);
        }
        return x;
    }

    private static void everyConstructor() {
        for (int kind : EDGES) {
            for (int width : EDGES) {
                for (int heartbeat : EDGES) {
                    String name = "new RoundArchive(" + kind + ", " + width + ", " + heartbeat + ")";
                    comesBack(name, () -> allOnce(new RoundArchive(kind, width, heartbeat)));
                }
            }
        }
    }

    /** A shape and an update that are taken, then each of the methods. */
    private static int allOnce(RoundArchive x) {
        x.shape(1, Due.packed(3, RoundArchive.LAST, 2, 1));
        x.update(7, 7);
        return askAll(x);
    }

    /** What a call has left behind may throw only later. */
    private static int askAll(RoundArchive x) {
        int sum = 0;
        for (int method = 2; method < METHODS; method++) {
            sum += call(x, method, 0, 0) + call(x, method, 1, 1);
        }
        return sum;
    }

    /** Each call on an object of its own, so that all of them meet the state that is named. */
    private static void everyCallIn(String state, Supplier<RoundArchive> maker) {
        for (int method = 0; method < METHODS; method++) {
            for (int first : EDGES) {
                for (int second : EDGES) {
                    RoundArchive x = maker.get();
                    int m = method;
                    comesBack(state + ": " + name(method, first, second) + " and all others", () -> {
                        call(x, m, first, second);
                        return askAll(x);
                    });
                }
            }
        }
    }

    private static void longRuns() {
        for (int i = 0; i < 600; i++) {
            longRun(new RoundArchive(argument(), argument(), argument()), 1000);
        }
        for (int i = 0; i < 20; i++) {
            longRun(new RoundArchive(argument(), argument(), argument()), 40000);
        }
    }

    private static void longRun(RoundArchive x, int calls) {
        for (int n = 1; n <= calls; n++) {
            int method = number(METHODS);
            int first = method == 1 && number(3) == 0 ? x.lastTime() + 1 + number(9) : argument();
            int second = argument();
            comesBack("call " + n + ": " + name(method, first, second), () -> call(x, method, first, second));
        }
    }

    private static int argument() {
        int kind = number(4);
        return kind == 0 ? (int) (next() >>> 32) : kind == 1 ? number(300) - 20 : EDGES[number(EDGES.length)];
    }

    private static int number(int bound) {
        return (int) ((next() >>> 33) % bound);
    }

    /** The same numbers in every run. */
    private static long next() {
        seed = seed * 6364136223846793005L + 1442695040888963407L;
        return seed;
    }

    private static void comesBack(String name, IntSupplier call) {
        String outcome = "an answer";
        try {
            call.getAsInt();
        } catch (RuntimeException | StackOverflowError thrown) {
            outcome = thrown.toString();
        }
        due.is(name, outcome, "an answer");
    }

    private static int call(RoundArchive x, int method, int first, int second) {
        return switch (method) {
            case 0 -> x.shape(first, second) ? 1 : 0;
            case 1 -> x.update(first, second) ? 1 : 0;
            case 2 -> x.lastTime();
            case 3 -> x.moment(first);
            case 4 -> x.steps();
            case 5 -> x.lastStep();
            case 6 -> x.rows(first);
            case 7 -> x.row(first, second);
            case 8 -> x.peak(first);
            case 9 -> x.known(first);
            case 10 -> x.pending();
            default -> x.pendingSum();
        };
    }

    private static String name(int method, int first, int second) {
        return switch (method) {
            case 0 -> "shape(" + first + ", " + second + ")";
            case 1 -> "update(" + first + ", " + second + ")";
            case 2 -> "lastTime()";
            case 3 -> "moment(" + first + ")";
            case 4 -> "steps()";
            case 5 -> "lastStep()";
            case 6 -> "rows(" + first + ")";
            case 7 -> "row(" + first + ", " + second + ")";
            case 8 -> "peak(" + first + ")";
            case 9 -> "known(" + first + ")";
            case 10 -> "pending()";
            default -> "pendingSum()";
        };
    }
}
