import java.util.List;

/** The promises of the document, one after the other: ordinary inputs, the edges it names, wrong inputs. */
public final class PromisesTest {
    private static final int UNKNOWN = -100000;
    private static final int NONE = -200000;
    private static final int GAUGE = 0;
    private static final int COUNTER = 1;
    private static final Due due = new Due();

    public static void main(String[] args) {
        constants();
        promise1Kind();
        promise1Width();
        promise1Heartbeat();
        promise1Archives();
        promise2EveryNumber();
        promise2Refused();
        promise2EachArchiveItsOwn();
        promise3Ranges();
        promise3RefusedChangesNothing();
        promise4();
        promise5Gauge();
        promise5Counter();
        promise5CounterAfterUnknown();
        promise5ThirtyBack();
        promise6();
        promise7();
        promise7HalfUnknown();
        promise8();
        promise9Rules();
        promise9Tolerance();
        promise9Kept();
        promise10();
        promise11();
        promise12();
        promise13();
        due.end();
    }

    private static void constants() {
        due.is("UNKNOWN", RoundArchive.UNKNOWN, -100000);
        due.is("NONE", RoundArchive.NONE, -200000);
        due.is("MEAN", RoundArchive.MEAN, 0);
        due.is("LOW", RoundArchive.LOW, 1);
        due.is("HIGH", RoundArchive.HIGH, 2);
        due.is("LAST", RoundArchive.LAST, 3);
    }

    private static void promise1Kind() {
        for (int kind : new int[] {Integer.MIN_VALUE, -1, 0}) {
            RoundArchive x = new RoundArchive(kind, 1, 1);
            due.is("kind " + kind + ": update(1, -1000)", x.update(1, -1000), true);
            due.is("kind " + kind + ": moment(1)", x.moment(1), -1000);
        }
        for (int kind : new int[] {1, 2, Integer.MAX_VALUE}) {
            RoundArchive x = new RoundArchive(kind, 1, 2);
            due.is("kind " + kind + ": update(1, -1)", x.update(1, -1), false);
            due.is("kind " + kind + ": update(2, 7)", x.update(2, 7), true);
            due.is("kind " + kind + ": moment(1)", x.moment(1), 3);
            due.is("kind " + kind + ": moment(2)", x.moment(2), 4);
        }
    }

    private static void promise1Width() {
        int[][] givenAndUsed = {
            {Integer.MIN_VALUE, 1}, {-1, 1}, {0, 1}, {1, 1}, {2, 2}, {3, 3}, {4, 4}, {5, 5}, {6, 6},
            {7, 6}, {100, 6}, {Integer.MAX_VALUE, 6}};
        for (int[] width : givenAndUsed) {
            RoundArchive x = new RoundArchive(GAUGE, width[0], 30);
            x.update(30, 1);
            due.is("width " + width[0] + ": steps()", x.steps(), 30 / width[1]);
        }
    }

    private static void promise1Heartbeat() {
        for (int heartbeat = 1; heartbeat <= 30; heartbeat++) {
            heartbeatIs(heartbeat, heartbeat);
        }
        heartbeatIs(Integer.MIN_VALUE, 1);
        heartbeatIs(-1, 1);
        heartbeatIs(0, 1);
        heartbeatIs(31, 30);
        heartbeatIs(Integer.MAX_VALUE, 30);
    }

    private static void heartbeatIs(int given, int used) {
        RoundArchive x = new RoundArchive(GAUGE, 1, given);
        x.update(used, 5);
        due.is("heartbeat " + given + ": in time", x.moment(used), 5);
        RoundArchive y = new RoundArchive(GAUGE, 1, given);
        y.update(used + 1, 5);
        due.is("heartbeat " + given + ": too late", y.moment(used + 1), UNKNOWN);
    }

    private static void promise1Archives() {
        RoundArchive x = new RoundArchive(GAUGE, 2, 30);
        due.is("new: lastTime()", x.lastTime(), 0);
        due.is("new: steps()", x.steps(), 0);
        due.is("new: lastStep()", x.lastStep(), NONE);
        due.is("new: moment(0)", x.moment(0), NONE);
        due.is("new: moment(1)", x.moment(1), NONE);
        due.is("new: pending()", x.pending(), 0);
        due.is("new: pendingSum()", x.pendingSum(), 0);
        for (int a = 0; a < 2; a++) {
            due.is("new: rows", x.rows(a), 0);
            due.is("new: row 0", x.row(a, 0), NONE);
            due.is("new: row -1", x.row(a, -1), NONE);
            due.is("new: peak", x.peak(a), UNKNOWN);
            due.is("new: known", x.known(a), 0);
        }
        due.feed(x, 1, 1, 2, 2, 3, 3, 4, 4, 5, 5, 6);
        for (int a = 0; a < 2; a++) {
            due.is("span 1: rows", x.rows(a), 5);
            due.is("room 4: row 0", x.row(a, 0), NONE);
            due.is("room 4: row 1", x.row(a, 1), 2);
            due.is("room 4: row 4", x.row(a, 4), 5);
            due.is("room 4: row 5", x.row(a, 5), NONE);
            due.is("room 4: known", x.known(a), 4);
        }
    }

    private static void promise2EveryNumber() {
        for (int packed = -5000; packed <= 9500; packed++) {
            boolean right = isShape(packed);
            due.is("shape(0, " + packed + ")", new RoundArchive(0, 1, 1).shape(0, packed), right);
            due.is("shape(1, " + packed + ")", new RoundArchive(1, 1, 1).shape(1, packed), right);
        }
        for (int packed : Due.FAR) {
            due.is("shape(0, " + packed + ")", new RoundArchive(0, 1, 1).shape(0, packed), false);
        }
        // The low bits of these are a right number, the others are not.
        for (int bit = 13; bit < 32; bit++) {
            int packed = 513 + (1 << bit);
            due.is("shape(0, " + packed + ")", new RoundArchive(0, 1, 1).shape(0, packed), false);
        }
    }

    private static boolean isShape(int number) {
        for (int i = 0; i < 4 * 4 * 4 * 8; i++) {
            if (number == Due.packed(1 + i % 4, i / 4 % 4, i / 16 % 4, 1 + i / 64)) {
                return true;
            }
        }
        return false;
    }

    private static void promise2Refused() {
        RoundArchive x = new RoundArchive(GAUGE, 1, 5);
        RoundArchive y = new RoundArchive(GAUGE, 1, 5);
        int first = Due.packed(2, RoundArchive.HIGH, 1, 3);
        int second = Due.packed(3, RoundArchive.LOW, 2, 2);
        for (RoundArchive z : List.of(x, y)) {
            // The later shape of an archive takes the place of the one before.
            due.is("shape(0)", z.shape(0, Due.packed(4, RoundArchive.LAST, 3, 8)), true);
            due.is("shape(0) again", z.shape(0, first), true);
            due.is("shape(1)", z.shape(1, second), true);
        }
        for (int a : Due.NO_ARCHIVE) {
            due.is("shape(" + a + ")", x.shape(a, Due.packed(1, 0, 0, 1)), false);
        }
        int[] wrong = {
            Due.packed(0, 0, 0, 1), Due.packed(5, 0, 0, 1), Due.packed(1, 4, 0, 1), Due.packed(1, 7, 0, 1),
            Due.packed(1, 0, 4, 1), Due.packed(1, 0, 7, 1), Due.packed(1, 0, 0, 0), Due.packed(1, 0, 0, 9),
            Due.packed(1, 0, 0, -1)};
        for (int packed : wrong) {
            due.is("shape(0, " + packed + ")", x.shape(0, packed), false);
            due.is("shape(1, " + packed + ")", x.shape(1, packed), false);
        }
        // A refused update is none, so the shape is still open.
        due.is("update(241, 1)", x.update(241, 1), false);
        due.is("update(1, 1001)", x.update(1, 1001), false);
        due.is("shape(0) before an update", x.shape(0, first), true);
        int[] values = {4, -8, 15, -16, 23, -42, 7};
        due.feed(x, values);
        due.feed(y, values);
        for (int a = 0; a < 2; a++) {
            due.is("shape(" + a + ") after an update", x.shape(a, Due.packed(1, 0, 0, 1)), false);
        }
        due.is("after refused shapes", Due.answers(x), Due.answers(y));
        RoundArchive early = new RoundArchive(GAUGE, 6, 1);
        due.feed(early, 0);
        due.is("shape(0) after an update at time 1", early.shape(0, first), false);
        due.is("HIGH of two", x.row(0, 2), 23);
        due.is("LOW of three", x.row(1, 1), -42);
    }

    private static void promise2EachArchiveItsOwn() {
        RoundArchive x = new RoundArchive(GAUGE, 1, 5);
        due.is("shape(1)", x.shape(1, Due.packed(4, RoundArchive.LAST, 3, 8)), true);
        due.feed(x, 1, 2, 3, 4, 5, 6, 7, 8);
        due.is("rows(0), not shaped", x.rows(0), 8);
        due.is("known(0), not shaped", x.known(0), 4);
        due.is("rows(1), shaped", x.rows(1), 2);
        due.is("row(1, 1), shaped", x.row(1, 1), 8);
    }

    private static void promise3Ranges() {
        int[][] kindsAndRanges = {{GAUGE, -1000, 1000}, {COUNTER, 0, 255}};
        for (int[] range : kindsAndRanges) {
            for (int v = -1100; v <= 1100; v++) {
                boolean right = v >= range[1] && v <= range[2];
                due.is("kind " + range[0] + ": update(1, " + v + ")", new RoundArchive(range[0], 1, 1).update(1, v), right);
            }
            for (int v : Due.FAR) {
                due.is("kind " + range[0] + ": update(1, " + v + ")", new RoundArchive(range[0], 1, 1).update(1, v), false);
            }
            for (int t = -5; t <= 300; t++) {
                boolean right = t >= 1 && t <= 240;
                due.is("kind " + range[0] + ": update(" + t + ", 5)", new RoundArchive(range[0], 1, 1).update(t, 5), right);
            }
        }
        RoundArchive x = new RoundArchive(GAUGE, 1, 1);
        for (int t = 1; t <= 240; t++) {
            due.is("update(" + t + ", 0)", x.update(t, 0), true);
        }
        due.is("update(241, 0)", x.update(241, 0), false);
    }

    private static void promise3RefusedChangesNothing() {
        for (int kind = GAUGE; kind <= COUNTER; kind++) {
            RoundArchive x = new RoundArchive(kind, 3, 4);
            RoundArchive y = new RoundArchive(kind, 3, 4);
            for (RoundArchive z : List.of(x, y)) {
                due.is("update(4, 100)", z.update(4, 100), true);
                due.is("update(5, 200)", z.update(5, 200), true);
            }
            for (int t : new int[] {Integer.MIN_VALUE, -1, 0, 1, 4, 5, 241, Integer.MAX_VALUE}) {
                due.is("update(" + t + ", 7)", x.update(t, 7), false);
            }
            for (int v : new int[] {Integer.MIN_VALUE, -1001, 1001, UNKNOWN, NONE, Integer.MAX_VALUE}) {
                due.is("update(6, " + v + ")", x.update(6, v), false);
            }
            due.is("after refused updates", Due.answers(x), Due.answers(y));
            for (RoundArchive z : List.of(x, y)) {
                due.is("update(9, 220)", z.update(9, 220), true);
            }
            due.is("after refused updates and one more", Due.answers(x), Due.answers(y));
            due.is("moment(9)", x.moment(9), kind == GAUGE ? 220 : 5);
        }
    }

    private static void promise4() {
        RoundArchive x = new RoundArchive(GAUGE, 6, 3);
        due.is("lastTime() at first", x.lastTime(), 0);
        for (int t : new int[] {1, 2, 5, 100, 239, 240}) {
            x.update(t, 1);
            due.is("lastTime()", x.lastTime(), t);
        }
    }

    private static void promise5Gauge() {
        RoundArchive x = new RoundArchive(GAUGE, 3, 4);
        x.update(2, 10);
        due.moments(x, -1, NONE, NONE, 10, 10, NONE);
        x.update(6, -1000);
        due.moments(x, 1, 10, 10, -1000, -1000, -1000, -1000, NONE);
        x.update(11, 3);
        due.moments(x, 6, -1000, UNKNOWN, UNKNOWN, UNKNOWN, UNKNOWN, UNKNOWN, NONE);
        x.update(12, 0);
        due.moments(x, 11, UNKNOWN, 0, NONE);
        for (int t : Due.FAR) {
            due.is("moment(" + t + ")", x.moment(t), NONE);
        }
    }

    private static void promise5Counter() {
        RoundArchive x = new RoundArchive(COUNTER, 3, 10);
        x.update(3, 100);
        due.moments(x, 1, 33, 33, 34, NONE);
        // The wheel goes 246 on, past 255.
        x.update(10, 90);
        due.moments(x, 4, 35, 35, 35, 35, 35, 35, 36, NONE);
        x.update(12, 90);
        due.moments(x, 11, 0, 0, NONE);
        x.update(22, 95);
        due.moments(x, 13, 0, 1, 0, 1, 0, 1, 0, 1, 0, 1, NONE);
        x.update(24, 94);
        due.moments(x, 23, 127, 128, NONE);
        x.update(25, 255);
        x.update(26, 0);
        due.moments(x, 25, 161, 1, NONE);
    }

    private static void promise5CounterAfterUnknown() {
        RoundArchive x = new RoundArchive(COUNTER, 3, 2);
        x.update(3, 200);
        due.moments(x, 1, UNKNOWN, UNKNOWN, UNKNOWN);
        x.update(4, 205);
        due.moments(x, 3, UNKNOWN, 5, NONE);
        x.update(10, 7);
        x.update(11, 6);
        due.moments(x, 10, UNKNOWN, 255, NONE);
    }

    private static void promise5ThirtyBack() {
        RoundArchive x = new RoundArchive(GAUGE, 1, 30);
        x.update(30, 1);
        x.update(31, 2);
        due.moments(x, 0, NONE, 1, 1);
        x.update(32, 3);
        due.moments(x, 0, NONE, NONE, 1);
        x.update(240, 4);
        due.moments(x, 208, NONE, NONE, UNKNOWN, UNKNOWN);
        due.moments(x, 239, UNKNOWN, UNKNOWN, NONE, NONE);
    }

    private static void promise6() {
        for (int width = 1; width <= 6; width++) {
            RoundArchive x = new RoundArchive(GAUGE, width, 1);
            for (int t = 1; t <= 240; t++) {
                x.update(t, 0);
                due.is("width " + width + ", time " + t + ": steps()", x.steps(), t / width);
            }
        }
        RoundArchive far = new RoundArchive(GAUGE, 6, 1);
        far.update(239, 0);
        due.is("unknown steps are complete too", far.steps(), 39);
    }

    private static void promise7() {
        RoundArchive x = new RoundArchive(GAUGE, 2, 3);
        due.feed(x, 3);
        due.is("lastStep(), none complete", x.lastStep(), NONE);
        due.feed(x, 4);
        due.is("lastStep() of 3, 4", x.lastStep(), 3);
        due.feed(x, -1);
        due.is("lastStep() stays", x.lastStep(), 3);
        due.feed(x, -2);
        due.is("lastStep() of -1, -2", x.lastStep(), -2);
        due.feed(x, -1, 0);
        due.is("lastStep() of -1, 0", x.lastStep(), -1);
        due.feed(x, -4, -2);
        due.is("lastStep() of -4, -2", x.lastStep(), -3);
        due.feed(x, 1000, 1000);
        due.is("lastStep() of 1000, 1000", x.lastStep(), 1000);
        due.feed(x, -1000, -1000);
        due.is("lastStep() of -1000, -1000", x.lastStep(), -1000);
        x.update(17, 9);
        due.is("lastStep() of unknown moments", x.lastStep(), UNKNOWN);
        due.feed(x, 9);
        due.is("lastStep(), one of two unknown", x.lastStep(), 9);
    }

    /** Step 1 with the given number of unknown moments at its beginning, for every width. */
    private static void promise7HalfUnknown() {
        for (int width = 1; width <= 6; width++) {
            for (int unknown = 1; unknown <= width; unknown++) {
                RoundArchive x = new RoundArchive(GAUGE, width, 1);
                for (int t = 1; t < width; t++) {
                    x.update(t, 900);
                }
                x.update(width + unknown, 800);
                int sum = 0;
                for (int t = width + unknown + 1; t <= 2 * width; t++) {
                    x.update(t, -t * t);
                    sum -= t * t;
                }
                int want = 2 * unknown <= width ? Math.floorDiv(sum, width - unknown) : UNKNOWN;
                due.is("lastStep(), " + unknown + " of " + width + " unknown", x.lastStep(), want);
            }
        }
    }

    private static void promise8() {
        for (int span = 1; span <= 4; span++) {
            RoundArchive x = due.shaped(2, 1, Due.packed(span, 0, 0, 1));
            for (int t = 1; t <= 240; t++) {
                x.update(t, 0);
                due.is("span " + span + ", time " + t + ": rows(0)", x.rows(0), t / (2 * span));
            }
            due.is("rows(1), not shaped", x.rows(1), 120);
            for (int a : Due.NO_ARCHIVE) {
                due.is("rows(" + a + ")", x.rows(a), 0);
            }
        }
        RoundArchive far = new RoundArchive(GAUGE, 6, 1);
        far.update(240, 0);
        due.is("unknown rows are complete too", far.rows(0), 40);
    }

    private static void promise9Rules() {
        int[][] valuesAndRows = {
            // four steps, then MEAN, LOW, HIGH and LAST of them
            {1, 2, 3, 5, 2, 1, 5, 5}, {-1, -2, -3, -4, -3, -4, -1, -4}, {-3, 8, -9, 4, 0, -9, 8, 4},
            {7, -6, 2, -4, -1, -6, 7, -4}, {-5, -5, -5, -6, -6, -6, -5, -6}, {1000, 1000, 1000, 1000, 1000, 1000, 1000, 1000},
            {-1000, -1000, -1000, -1000, -1000, -1000, -1000, -1000}, {0, 0, 0, -1, -1, -1, 0, -1}};
        for (int rule = 0; rule < 4; rule++) {
            RoundArchive x = due.shaped(1, 1, Due.packed(4, rule, 0, 8));
            for (int[] row : valuesAndRows) {
                due.feed(x, row[0], row[1], row[2], row[3]);
            }
            for (int r = 0; r < valuesAndRows.length; r++) {
                due.is("rule " + rule + ": row(0, " + r + ")", x.row(0, r), valuesAndRows[r][4 + rule]);
            }
        }
        // A row is made of the rounded values of its steps, not of their moments.
        RoundArchive x = due.shaped(2, 1, Due.packed(2, RoundArchive.MEAN, 0, 1));
        due.feed(x, 1, 2, 2, 3);
        due.is("MEAN of 1 and 2", x.row(0, 0), 1);
        due.feed(x, 0, -1, 1, 0);
        due.is("MEAN of -1 and 0", x.row(0, 1), -1);
    }

    private static void promise9Tolerance() {
        for (int tolerance = 0; tolerance <= 3; tolerance++) {
            for (int rule = 0; rule < 4; rule++) {
                for (int span = 1; span <= 4; span++) {
                    for (int unknown = 1; unknown <= span; unknown++) {
                        unknownAtBeginning(Due.packed(span, rule, tolerance, 8), span, unknown, tolerance);
                        unknownAtEnd(Due.packed(span, rule, tolerance, 8), span, unknown, tolerance);
                    }
                }
            }
        }
        RoundArchive x = due.shaped(1, 1, Due.packed(4, RoundArchive.MEAN, 2, 1));
        due.feed(x, -7);
        x.update(3, 500);
        due.feed(x, -4);
        due.is("MEAN of the known ones, -7 and -4", x.row(0, 0), -6);
    }

    /** Row 1 has its unknown steps first: the gap begins at the last step of row 0. */
    private static void unknownAtBeginning(int packed, int span, int unknown, int tolerance) {
        RoundArchive x = due.shaped(1, 1, packed);
        for (int t = 1; t < span; t++) {
            x.update(t, 600);
        }
        x.update(span + unknown, 700);
        for (int t = span + unknown + 1; t <= 2 * span; t++) {
            x.update(t, -30);
        }
        due.is(packed + ": row(0, 1), first " + unknown + " unknown", x.row(0, 1),
            unknown <= tolerance && unknown < span ? -30 : UNKNOWN);
    }

    /** Row 0 has its unknown steps last: the gap ends at the first step of row 1. */
    private static void unknownAtEnd(int packed, int span, int unknown, int tolerance) {
        RoundArchive x = due.shaped(1, 1, packed);
        for (int t = 1; t <= span - unknown; t++) {
            x.update(t, -30);
        }
        x.update(span + 1, 700);
        due.is(packed + ": row(0, 0), last " + unknown + " unknown", x.row(0, 0),
            unknown <= tolerance && unknown < span ? -30 : UNKNOWN);
    }

    private static void promise9Kept() {
        for (int room = 1; room <= 8; room++) {
            RoundArchive x = due.shaped(1, 1, Due.packed(2, RoundArchive.LAST, 0, room));
            for (int t = 1; t <= 23; t++) {
                x.update(t, t);
            }
            for (int r = -1; r <= 13; r++) {
                boolean kept = r >= 11 - room && r < 11;
                due.is("room " + room + ": row(0, " + r + ")", x.row(0, r), kept ? 2 * r + 2 : NONE);
            }
            for (int r : Due.FAR) {
                due.is("row(0, " + r + ")", x.row(0, r), NONE);
            }
            for (int a : Due.NO_ARCHIVE) {
                due.is("row(" + a + ", 10)", x.row(a, 10), NONE);
            }
        }
        RoundArchive x = due.shaped(1, 1, Due.packed(1, 0, 0, 8));
        due.feed(x, 5, 6);
        due.is("room for more than there is: row(0, -1)", x.row(0, -1), NONE);
        due.is("room for more than there is: row(0, 0)", x.row(0, 0), 5);
        due.is("room for more than there is: row(0, 2)", x.row(0, 2), NONE);
    }

    private static void promise10() {
        RoundArchive x = due.shaped(1, 1, Due.packed(1, 0, 0, 3));
        due.is("peak(0), no row", x.peak(0), UNKNOWN);
        due.feed(x, -1000);
        due.is("peak(0), the least value", x.peak(0), -1000);
        due.feed(x, -5, -9);
        due.is("peak(0), the middle one", x.peak(0), -5);
        due.feed(x, -7, -8);
        due.is("peak(0), the greatest went out", x.peak(0), -7);
        due.is("peak(1), kept longer", x.peak(1), -5);
        x.update(7, 1000);
        due.is("peak(0), one known", x.peak(0), -8);
        x.update(10, 1000);
        due.is("peak(0), none known", x.peak(0), UNKNOWN);
        due.feed(x, 4);
        due.is("peak(0), the last known", x.peak(0), 4);
        for (int a : Due.NO_ARCHIVE) {
            due.is("peak(" + a + ")", x.peak(a), NONE);
        }
    }

    private static void promise11() {
        RoundArchive x = due.shaped(1, 1, Due.packed(1, 0, 0, 3));
        due.is("known(0), no row", x.known(0), 0);
        due.feed(x, 0);
        due.is("known(0), one row", x.known(0), 1);
        due.feed(x, -1, 1, 7);
        due.is("known(0), one went out", x.known(0), 3);
        due.is("known(1), room for one more", x.known(1), 4);
        x.update(6, 1);
        due.is("known(0), two unknown", x.known(0), 1);
        due.is("known(1), two unknown", x.known(1), 2);
        x.update(8, 1);
        due.is("known(0), all unknown", x.known(0), 0);
        due.feed(x, 3, 3);
        due.is("known(0), two again", x.known(0), 2);
        for (int a : Due.NO_ARCHIVE) {
            due.is("known(" + a + ")", x.known(a), 0);
        }
    }

    private static void promise12() {
        for (int width = 1; width <= 6; width++) {
            RoundArchive known = new RoundArchive(GAUGE, width, 1);
            due.is("pending() at first", known.pending(), 0);
            for (int t = 1; t <= 240; t++) {
                known.update(t, 0);
                due.is("width " + width + ", time " + t + ": pending()", known.pending(), t % width);
                RoundArchive unknown = new RoundArchive(GAUGE, width, 1);
                unknown.update(t, 0);
                due.is("width " + width + ", time " + t + ", unknown: pending()", unknown.pending(), t % width);
            }
        }
    }

    private static void promise13() {
        RoundArchive x = new RoundArchive(GAUGE, 4, 2);
        due.is("pendingSum() at first", x.pendingSum(), 0);
        due.feed(x, 5);
        due.is("pendingSum() of 5", x.pendingSum(), 5);
        x.update(3, -1000);
        due.is("pendingSum() of 5, -1000, -1000", x.pendingSum(), -1995);
        due.feed(x, 1);
        due.is("pendingSum(), the step is complete", x.pendingSum(), 0);
        due.feed(x, 2);
        due.is("pendingSum() of the next step", x.pendingSum(), 2);
        x.update(10, 9);
        due.is("pendingSum(), all unknown", x.pendingSum(), 0);
        due.feed(x, -3);
        due.is("pendingSum(), two unknown and -3", x.pendingSum(), -3);
        RoundArchive wheel = new RoundArchive(COUNTER, 6, 10);
        wheel.update(9, 100);
        due.is("pendingSum() of 11, 11, 12", wheel.pendingSum(), 34);
    }
}
