import java.nio.file.Path;
import java.util.ArrayList;
import java.util.List;

/** What the tests share: it prints every answer that is not the one that is due, and counts them. */
final class Due {
    /** Arguments far outside of every range: sums and differences of them wrap around. */
    static final int[] FAR = {Integer.MIN_VALUE, Integer.MIN_VALUE + 1, Integer.MAX_VALUE - 1, Integer.MAX_VALUE};

    /** Numbers that name no archive. */
    static final int[] NO_ARCHIVE = {-1, 2, 3, Integer.MIN_VALUE, Integer.MAX_VALUE};

    /** Far more than any test needs, so that only a call that doesn't end takes so long. */
    private static final int SECONDS = 300;

    private String sentence = "";
    private int looked = 0;
    private int wrong = 0;

    Due() {
        Thread watch = new Thread(Due::endLate);
        watch.setDaemon(true);
        watch.start();
    }

    private static void endLate() {
        try {
            Thread.sleep(SECONDS * 1000L);
        } catch (InterruptedException stopped) {
            return;
        }
        System.out.println("not at its end after " + SECONDS + " seconds");
        Runtime.getRuntime().halt(1);
    }

    /** The test of one sentence of the document: what goes wrong in it is printed with it, and the others still run. */
    void test(String words, Runnable body) {
        sentence = "[" + words + "] ";
        int before = looked;
        try {
            body.run();
        } catch (RuntimeException thrown) {
            is("a call", thrown, "no exception");
        }
        if (looked == before) {
            is("the test", "nothing", "something");
        }
    }

    void is(String what, Object got, Object want) {
        looked++;
        if (!got.equals(want)) {
            wrong++;
            System.out.println(sentence + what + " answered " + got + ", due is " + want);
        }
    }

    /** The moments from the first one on. */
    void moments(RoundArchive x, int first, int... values) {
        for (int i = 0; i < values.length; i++) {
            is("moment(" + (first + i) + ")", x.moment(first + i), values[i]);
        }
    }

    /** The rows of an archive from the first one on. */
    void rows(RoundArchive x, int a, int first, int... values) {
        for (int i = 0; i < values.length; i++) {
            is("row(" + a + ", " + (first + i) + ")", x.row(a, first + i), values[i]);
        }
    }

    /** One update a moment, from the moment after the last update on. */
    void feed(RoundArchive x, int... values) {
        for (int v : values) {
            int t = x.lastTime() + 1;
            is("update(" + t + ", " + v + ")", x.update(t, v), true);
        }
    }

    /** A gauge whose archive 0 is shaped and whose archive 1 is as it was at first. */
    RoundArchive shaped(int width, int heartbeat, int packed) {
        RoundArchive x = new RoundArchive(0, width, heartbeat);
        is("shape(0, " + packed + ")", x.shape(0, packed), true);
        return x;
    }

    /**
     * Step after step for an object with width 2 and heartbeat 1, UNKNOWN for a step that is not known:
     * there each step can be known or not whatever its neighbours are.
     */
    static void feedSteps(RoundArchive x, int... values) {
        for (int v : values) {
            int t = x.lastTime();
            if (v != RoundArchive.UNKNOWN) {
                x.update(t + 1, v);
            }
            x.update(t + 2, v == RoundArchive.UNKNOWN ? 99 : v);
        }
    }

    void end() {
        System.out.println(looked + " answers, " + wrong + " of them not as due");
        if (wrong != 0 || looked == 0) {
            System.exit(1);
        }
    }

    /** The folder of the project, which .ci/run tells. */
    static Path project() {
        return Path.of(System.getProperty("project", "."));
    }

    static int packed(int span, int rule, int tolerance, int room) {
        return span + 8 * rule + 64 * tolerance + 512 * room;
    }

    /** Every answer that can tell something now: some 70 calls, so that an object bears a few of them in its 512. */
    static List<Integer> answers(RoundArchive x) {
        List<Integer> all = new ArrayList<>(List.of(x.lastTime(), x.steps(), x.lastStep(), x.pending(), x.pendingSum()));
        for (int t = all.get(0) - 31; t <= all.get(0) + 1; t++) {
            all.add(x.moment(t));
        }
        for (int a = 0; a < 2; a++) {
            int rows = x.rows(a);
            all.addAll(List.of(rows, x.peak(a), x.known(a)));
            for (int r = rows - 9; r <= rows; r++) {
                all.add(x.row(a, r));
            }
        }
        return all;
    }
}
