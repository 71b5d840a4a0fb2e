import java.util.Arrays;

/** The sentences under 'Terms', each with a test of its own. */
public final class TermsTest {
    private static final int UNKNOWN = -100000;
    private static final int NONE = -200000;
    private static final int GAUGE = 0;
    private static final int COUNTER = 1;

    // Sentences with more than one test.
    private static final String HEARTBEAT = "When the time that has passed since then is more than the HEARTBEAT";
    private static final String HALF = "at most half of its moments are unknown (2 * unknown <= width)";
    private static final String DOWN = "rounded down (towards minus infinity)";

    private static final Due due = new Due();

    public static void main(String[] args) {
        due.test("the moments since the update before it (or since time 0, if there is none)", TermsTest::sinceTheUpdateBefore);
        due.test(HEARTBEAT + " (since time 0)", TermsTest::heartbeatSinceTheStart);
        due.test(HEARTBEAT + " (since an update)", TermsTest::heartbeatSinceAnUpdate);
        due.test(HEARTBEAT + " (since an update that came late itself)", TermsTest::heartbeatSinceALateUpdate);
        due.test("a GAUGE (kind 0): each of them has the value v of the update", TermsTest::eachHasTheValue);
        due.test("a wheel that goes from 255 on to 0", TermsTest::wheelGoesOn);
        due.test("the wheel was at 0 at time 0", TermsTest::wheelAtFirst);
        due.test("both quotients rounded down", TermsTest::quotientsRoundedDown);
        due.test("When moments are unknown the state v still counts for the next update.", TermsTest::wheelAfterUnknown);
        due.test("Moments after the last update have no value yet.", TermsTest::momentsAfterTheLast);
        due.test("step k (0, 1, ..) has the moments k * width + 1 .. (k + 1) * width", TermsTest::momentsOfAStep);
        due.test("It is COMPLETE when the last update is at its last moment or later.", TermsTest::completeStep);
        due.test(HALF + " (its first ones)", TermsTest::halfUnknownFirst);
        due.test(HALF + " (its last ones)", TermsTest::halfUnknownLast);
        due.test(HALF + " (between known ones)", TermsTest::halfUnknownBetween);
        due.test(DOWN + " (a step)", TermsTest::stepRoundedDown);
        due.test("the sum of its known moments' values divided by their number, " + DOWN, TermsTest::stepOfTheKnownOnes);
        due.test("There are two ARCHIVES 0 and 1, each with a number of steps in a row", TermsTest::twoArchives);
        due.test("ROW r (0, 1, ..) of an archive has the steps r * span .. (r + 1) * span - 1", TermsTest::stepsOfARow);
        due.test("complete when they all are", TermsTest::completeRow);
        due.test("Its value is made of the values of its known steps by the rule", TermsTest::valueByTheRule);
        due.test(DOWN + " (a row by MEAN)", TermsTest::rowRoundedDown);
        due.test("when at most tolerance of its steps are not known and at least one is", TermsTest::toleranceAndAtLeastOne);
        due.test("that of the last known step", TermsTest::lastKnownStep);
        due.test("An archive keeps its last complete rows, as many as it has room for.", TermsTest::lastCompleteRows);
        due.end();
    }

    private static void sinceTheUpdateBefore() {
        RoundArchive x = new RoundArchive(GAUGE, 1, 30);
        x.update(4, 7);
        allMoments(x, 1, 4, 7);
        x.update(5, 8);
        due.moments(x, 3, 7, 7, 8, NONE);
        // A refused update is none: the moments go back to the one that was taken.
        x.update(9, 1001);
        x.update(5, 3);
        x.update(12, 9);
        due.moments(x, 4, 7, 8);
        allMoments(x, 6, 12, 9);
        RoundArchive wheel = new RoundArchive(COUNTER, 1, 30);
        wheel.update(2, 4);
        wheel.update(4, 256);
        wheel.update(6, 16);
        due.moments(wheel, 1, 2, 2, 3, 3, 3, 3, NONE);
    }

    private static void eachHasTheValue() {
        for (int v : new int[] {-1000, -1, 0, 1, 1000}) {
            for (int length : new int[] {1, 2, 29, 30}) {
                RoundArchive x = new RoundArchive(GAUGE, 1, 30);
                due.feed(x, 17);
                x.update(1 + length, v);
                due.is("moment(1)", x.moment(1), 17);
                allMoments(x, 2, 1 + length, v);
            }
        }
    }

    private static void momentsAfterTheLast() {
        RoundArchive x = new RoundArchive(GAUGE, 6, 30);
        due.feed(x, 60);
        due.moments(x, 1, 60, NONE, NONE, NONE, NONE, NONE, NONE);
        due.is("pending()", x.pending(), 1);
        due.is("pendingSum()", x.pendingSum(), 60);
        due.is("lastStep()", x.lastStep(), NONE);
        x.update(8, 30);
        due.moments(x, 7, 30, 30, NONE, NONE);
        due.is("pending() of the next step", x.pending(), 2);
        due.is("pendingSum() of the next step", x.pendingSum(), 60);
        due.is("lastStep(), the complete one", x.lastStep(), 35);
    }

    /** Moment t has the value t and step k is the last one there is: its mean tells which moments it has. */
    private static void momentsOfAStep() {
        for (int width = 1; width <= 6; width++) {
            RoundArchive x = new RoundArchive(GAUGE, width, 1);
            for (int t = 1; t <= 240; t++) {
                x.update(t, t);
                if (t % width == 0) {
                    due.is("width " + width + ", step " + (t / width - 1) + ": lastStep()", x.lastStep(), t - width / 2);
                }
            }
        }
    }

    private static void completeStep() {
        for (int width = 2; width <= 6; width++) {
            RoundArchive x = new RoundArchive(GAUGE, width, 30);
            x.update(width - 1, 5);
            due.is("width " + width + ": steps(), before its last moment", x.steps(), 0);
            x.update(width, 5);
            due.is("width " + width + ": steps(), at its last moment", x.steps(), 1);
            RoundArchive later = new RoundArchive(GAUGE, width, 30);
            later.update(width - 1, 5);
            later.update(width + 1, 5);
            due.is("width " + width + ": steps(), later", later.steps(), 1);
            due.is("width " + width + ": lastStep(), later", later.lastStep(), 5);
            due.is("width " + width + ": pending(), later", later.pending(), 1);
            RoundArchive far = new RoundArchive(GAUGE, width, 30);
            far.update(3 * width + 1, 5);
            due.is("width " + width + ": steps(), later than three", far.steps(), 3);
        }
    }

    private static void twoArchives() {
        RoundArchive x = new RoundArchive(GAUGE, 2, 1);
        due.is("shape(0)", x.shape(0, Due.packed(2, RoundArchive.LOW, 0, 3)), true);
        due.is("shape(1)", x.shape(1, Due.packed(3, RoundArchive.HIGH, 1, 2)), true);
        Due.feedSteps(x, 4, 9, UNKNOWN, 3, 8, 5, 6, 2, 7);
        due.is("rows(0)", x.rows(0), 4);
        due.rows(x, 0, 0, NONE, UNKNOWN, 5, 2, NONE);
        due.is("peak(0)", x.peak(0), 5);
        due.is("known(0)", x.known(0), 2);
        due.is("rows(1)", x.rows(1), 3);
        due.rows(x, 1, 0, NONE, 8, 7, NONE);
        due.is("peak(1)", x.peak(1), 8);
        due.is("known(1)", x.known(1), 2);
    }

    /** Step k has the value k and row r is the last one there is: the least, the greatest and the last tell which steps it has. */
    private static void stepsOfARow() {
        for (int width = 1; width <= 6; width++) {
            for (int span = 1; span <= 4; span++) {
                RoundArchive x = new RoundArchive(GAUGE, width, width);
                due.is("shape(0)", x.shape(0, Due.packed(span, RoundArchive.LOW, 0, 1)), true);
                due.is("shape(1)", x.shape(1, Due.packed(span, RoundArchive.HIGH, 0, 1)), true);
                for (int k = 0; k < Math.min(160, 240 / width); k++) {
                    x.update((k + 1) * width, k);
                    int r = (k + 1) / span - 1;
                    due.is("width " + width + ", span " + span + ": row(0, " + r + ")", x.row(0, r), r < 0 ? NONE : r * span);
                    due.is("width " + width + ", span " + span + ": row(1, " + r + ")", x.row(1, r), r < 0 ? NONE : r * span + span - 1);
                }
            }
        }
    }

    private static void completeRow() {
        for (int span = 2; span <= 4; span++) {
            RoundArchive x = due.shaped(2, 1, Due.packed(span, RoundArchive.HIGH, 3, 8));
            for (int k = 1; k < span; k++) {
                Due.feedSteps(x, k);
                due.is("span " + span + ", " + k + " steps: rows(0)", x.rows(0), 0);
                due.is("span " + span + ", " + k + " steps: row(0, 0)", x.row(0, 0), NONE);
            }
            due.feed(x, 9);
            due.is("span " + span + ", the last step is not complete: rows(0)", x.rows(0), 0);
            due.feed(x, 9);
            due.is("span " + span + ": rows(0)", x.rows(0), 1);
            due.is("span " + span + ": row(0, 0)", x.row(0, 0), 9);
        }
        // A step that is not known is complete all the same.
        RoundArchive unknown = due.shaped(2, 1, Due.packed(2, RoundArchive.HIGH, 3, 8));
        Due.feedSteps(unknown, UNKNOWN, UNKNOWN);
        due.is("unknown steps: rows(0)", unknown.rows(0), 1);
        due.is("unknown steps: row(0, 0)", unknown.row(0, 0), UNKNOWN);
    }

    /** Every four steps of these values, the unknown ones among them, by each rule. */
    private static void valueByTheRule() {
        int[] values = {UNKNOWN, -7, 0, 4};
        for (int i = 0; i < 256; i++) {
            int[] steps = {values[i & 3], values[i >> 2 & 3], values[i >> 4 & 3], values[i >> 6]};
            int[] known = Arrays.stream(steps).filter(v -> v != UNKNOWN).toArray();
            if (known.length > 0) {
                ruleOf(RoundArchive.MEAN, Math.floorDiv(Arrays.stream(known).sum(), known.length), steps);
                ruleOf(RoundArchive.LOW, Arrays.stream(known).min().getAsInt(), steps);
                ruleOf(RoundArchive.HIGH, Arrays.stream(known).max().getAsInt(), steps);
                ruleOf(RoundArchive.LAST, known[known.length - 1], steps);
            }
        }
    }

    private static void ruleOf(int rule, int want, int... steps) {
        RoundArchive x = due.shaped(2, 1, Due.packed(4, rule, 3, 1));
        Due.feedSteps(x, steps);
        due.is("rule " + rule + ": row(0, 0) of " + Arrays.toString(steps), x.row(0, 0), want);
    }

    private static void heartbeatSinceTheStart() {
        for (int kind = GAUGE; kind <= COUNTER; kind++) {
            for (int heartbeat = 1; heartbeat <= 30; heartbeat++) {
                RoundArchive x = new RoundArchive(kind, 1, heartbeat);
                x.update(heartbeat, 0);
                allMoments(x, 1, heartbeat, 0);
                RoundArchive late = new RoundArchive(kind, 1, heartbeat);
                late.update(heartbeat + 1, 0);
                allMoments(late, 1, heartbeat + 1, UNKNOWN);
            }
        }
    }

    private static void heartbeatSinceAnUpdate() {
        for (int heartbeat : new int[] {1, 2, 15, 28, 29}) {
            RoundArchive x = new RoundArchive(GAUGE, 1, heartbeat);
            due.feed(x, 5);
            x.update(1 + heartbeat, 6);
            due.moments(x, 1, 5);
            allMoments(x, 2, 1 + heartbeat, 6);
            RoundArchive late = new RoundArchive(GAUGE, 1, heartbeat);
            due.feed(late, 5);
            late.update(2 + heartbeat, 6);
            due.moments(late, 1, 5);
            allMoments(late, 2, 2 + heartbeat, UNKNOWN);
        }
        RoundArchive longest = new RoundArchive(GAUGE, 1, 30);
        due.feed(longest, 5);
        longest.update(31, 6);
        allMoments(longest, 2, 31, 6);
        longest.update(62, 7);
        allMoments(longest, 32, 62, UNKNOWN);
    }

    private static void heartbeatSinceALateUpdate() {
        RoundArchive x = new RoundArchive(GAUGE, 1, 3);
        x.update(4, 9);
        x.update(7, 8);
        due.moments(x, 1, UNKNOWN, UNKNOWN, UNKNOWN, UNKNOWN, 8, 8, 8, NONE);
        x.update(11, 7);
        x.update(15, 6);
        due.moments(x, 7, 8, UNKNOWN, UNKNOWN, UNKNOWN, UNKNOWN, UNKNOWN, UNKNOWN, UNKNOWN, UNKNOWN, NONE);
    }

    private static void allMoments(RoundArchive x, int first, int last, int value) {
        int[] values = new int[last - first + 1];
        Arrays.fill(values, value);
        due.moments(x, first, values);
        due.moments(x, last + 1, NONE);
    }

    private static void wheelGoesOn() {
        int[][] fromToAndTurned = {
            {0, 0, 0}, {0, 1, 1}, {0, 255, 255}, {1, 0, 255}, {1, 255, 254}, {100, 99, 255}, {100, 100, 0}, {100, 101, 1},
            {254, 255, 1}, {254, 0, 2}, {255, 0, 1}, {255, 1, 2}, {255, 254, 255}, {255, 255, 0}};
        for (int[] turn : fromToAndTurned) {
            RoundArchive x = new RoundArchive(COUNTER, 1, 1);
            due.feed(x, turn[0], turn[1]);
            due.is("from " + turn[0] + " to " + turn[1] + ": moment(2)", x.moment(2), turn[2]);
        }
        RoundArchive around = new RoundArchive(COUNTER, 1, 1);
        due.feed(around, 200, 100, 0, 156, 56);
        due.moments(around, 1, 200, 156, 156, 156, 156);
    }

    private static void wheelAtFirst() {
        for (int v : new int[] {0, 1, 128, 254, 255}) {
            RoundArchive x = new RoundArchive(COUNTER, 1, 1);
            due.feed(x, v);
            due.moments(x, 1, v);
        }
    }

    private static void quotientsRoundedDown() {
        turned(0, 0, 0, 0);
        turned(1, 0, 1);
        turned(1, 0, 0, 1);
        turned(2, 0, 1, 1);
        turned(3, 1, 1, 1);
        turned(4, 1, 1, 2);
        turned(5, 1, 2, 2);
        turned(3, 0, 1, 0, 1, 1);
        turned(255, 63, 64, 64, 64);
        turned(254, 36, 36, 36, 37, 36, 36, 37);
        turned(255, 255);
        int[] oneAtTheEnd = new int[30];
        oneAtTheEnd[29] = 1;
        turned(1, oneAtTheEnd);
        int[] byTurns = new int[30];
        for (int i = 0; i < 30; i++) {
            byTurns[i] = i % 2 == 0 ? 8 : 9;
        }
        turned(255, byTurns);
    }

    /** The wheel goes on by d in as many moments as there are values: from 0, and from 250 past its end. */
    private static void turned(int d, int... values) {
        RoundArchive x = new RoundArchive(COUNTER, 1, 30);
        x.update(values.length, d);
        due.moments(x, 1, values);
        RoundArchive past = new RoundArchive(COUNTER, 1, 30);
        due.feed(past, 250);
        past.update(1 + values.length, (250 + d) % 256);
        due.moments(past, 2, values);
    }

    private static void wheelAfterUnknown() {
        int[][] nextAndTurned = {{200, 0}, {201, 1}, {255, 55}, {0, 56}, {199, 255}};
        for (int[] next : nextAndTurned) {
            RoundArchive x = new RoundArchive(COUNTER, 1, 2);
            x.update(3, 200);
            due.feed(x, next[0]);
            due.moments(x, 3, UNKNOWN, next[1]);
            RoundArchive twice = new RoundArchive(COUNTER, 1, 2);
            due.feed(twice, 30);
            twice.update(9, 70);
            twice.update(20, 200);
            twice.update(21, next[0]);
            due.moments(twice, 20, UNKNOWN, next[1]);
        }
    }

    /** Each width with the greatest number of unknown moments that leaves a step of it known. */
    private static final int[][] WIDTH_AND_MOST = {{1, 0}, {2, 1}, {3, 1}, {4, 2}, {5, 2}, {6, 3}};

    /** Moments 1 .. unknown of step 1: the gap begins in step 0. */
    private static void halfUnknownFirst() {
        for (int[] width : WIDTH_AND_MOST) {
            for (int unknown = 0; unknown <= width[0]; unknown++) {
                RoundArchive x = new RoundArchive(GAUGE, width[0], 1);
                for (int t = 1; t < width[0]; t++) {
                    x.update(t, 500);
                }
                x.update(width[0] + unknown, 600);
                for (int t = width[0] + unknown + 1; t <= 2 * width[0]; t++) {
                    x.update(t, 70);
                }
                due.is(unknown + " of " + width[0] + " unknown: lastStep()", x.lastStep(), unknown <= width[1] ? 70 : UNKNOWN);
            }
        }
    }

    /** The last moments of step 0: the gap ends in step 1. Step 0 is row 0 of an archive with span 1. */
    private static void halfUnknownLast() {
        for (int[] width : WIDTH_AND_MOST) {
            for (int unknown = 0; unknown <= width[0]; unknown++) {
                RoundArchive x = new RoundArchive(GAUGE, width[0], 1);
                for (int t = 1; t <= width[0] - unknown; t++) {
                    x.update(t, 70);
                }
                x.update(width[0] + 1, 600);
                due.is(unknown + " of " + width[0] + " unknown: row(1, 0)", x.row(1, 0), unknown <= width[1] ? 70 : UNKNOWN);
            }
        }
    }

    private static void halfUnknownBetween() {
        between(4, 70, 1, 3, 4);
        between(5, 70, 1, 3, 4, 5);
        between(5, UNKNOWN, 1, 4, 5);
        between(6, 70, 1, 4, 5, 6);
        between(6, UNKNOWN, 1, 5, 6);
        between(6, UNKNOWN, 2, 3, 5, 6);
    }

    /** Step 0 with updates at these times alone: with heartbeat 1 all moments between two of them are unknown. */
    private static void between(int width, int want, int... times) {
        RoundArchive x = new RoundArchive(GAUGE, width, 1);
        for (int t : times) {
            x.update(t, 70);
        }
        due.is("width " + width + ", updates at " + Arrays.toString(times) + ": lastStep()", x.lastStep(), want);
    }

    private static void stepRoundedDown() {
        stepOf(0, 1, 0);
        stepOf(-1, -1, 0);
        stepOf(1, 2, 1);
        stepOf(-2, -2, -1);
        stepOf(-1, -2, 0);
        stepOf(-1, -1, -1);
        stepOf(0, -1, 1);
        stepOf(999, 1000, 999);
        stepOf(-1000, -1000, -999);
        stepOf(1000, 1000, 1000);
        stepOf(-1000, -1000, -1000);
        stepOf(0, 0, 0, 2);
        stepOf(1, 0, 0, 3);
        stepOf(-1, 0, 0, -1);
        stepOf(-1, 0, 0, -3);
        stepOf(-2, 0, 0, -4);
        stepOf(0, 0, 0, 0, 0, 0, 5);
        stepOf(1, 0, 0, 0, 0, 0, 6);
        stepOf(-1, 0, 0, 0, 0, 0, -1);
        stepOf(-1, 0, 0, 0, 0, 0, -6);
        stepOf(-2, 0, 0, 0, 0, 0, -7);
    }

    private static void stepOf(int want, int... moments) {
        RoundArchive x = new RoundArchive(GAUGE, moments.length, 1);
        due.feed(x, moments);
        due.is("lastStep() of " + Arrays.toString(moments), x.lastStep(), want);
    }

    private static void stepOfTheKnownOnes() {
        int[][] lastTwoAndMean = {{1, 2, 1}, {-1, -2, -2}, {-1, 0, -1}, {4, 4, 4}, {-4, -2, -3}};
        for (int[] values : lastTwoAndMean) {
            RoundArchive x = new RoundArchive(GAUGE, 4, 1);
            x.update(2, 900);
            due.feed(x, values[0], values[1]);
            due.is("lastStep(), 2 unknown, " + values[0] + ", " + values[1], x.lastStep(), values[2]);
        }
        RoundArchive x = new RoundArchive(GAUGE, 6, 1);
        x.update(3, 900);
        due.feed(x, -1, -1, -2);
        due.is("lastStep(), 3 unknown, -1, -1, -2", x.lastStep(), -2);
    }

    private static void rowRoundedDown() {
        rowOf(0, 1, 0);
        rowOf(-1, -1, 0);
        rowOf(-2, -2, -1);
        rowOf(-1, -2, 0);
        rowOf(0, 0, 0, 2);
        rowOf(-1, 0, 0, -1);
        rowOf(-1, 0, 0, -3);
        rowOf(-2, 0, 0, -4);
        rowOf(0, 0, 0, 0, 3);
        rowOf(1, 0, 0, 0, 4);
        rowOf(-1, 0, 0, 0, -1);
        rowOf(-1, 0, 0, 0, -4);
        rowOf(-2, 0, 0, 0, -5);
        rowOf(-1000, -1000, -1000, -1000, -999);
        rowOf(999, 1000, 1000, 1000, 999);
        rowOf(-1000, -1000, -1000, -1000, -1000);
        rowOf(1000, 1000, 1000, 1000, 1000);
        // Divided by the number of the known ones.
        rowOf(-2, UNKNOWN, -1, -2, UNKNOWN);
        rowOf(1, 1, UNKNOWN, UNKNOWN, 2);
        rowOf(-3, UNKNOWN, UNKNOWN, -3, UNKNOWN);
    }

    private static void rowOf(int want, int... steps) {
        RoundArchive x = due.shaped(2, 1, Due.packed(steps.length, RoundArchive.MEAN, 3, 1));
        Due.feedSteps(x, steps);
        due.is("row(0, 0) of " + Arrays.toString(steps), x.row(0, 0), want);
    }

    private static void toleranceAndAtLeastOne() {
        for (int span = 1; span <= 4; span++) {
            for (int tolerance = 0; tolerance <= 3; tolerance++) {
                for (int which = 0; which < 1 << span; which++) {
                    for (int rule = 0; rule <= 3; rule++) {
                        rowWithUnknown(span, rule, tolerance, which);
                    }
                }
            }
        }
    }

    /** Row 1, after a row of known steps; its step i is unknown when bit i of the number is set. */
    private static void rowWithUnknown(int span, int rule, int tolerance, int which) {
        RoundArchive x = due.shaped(2, 1, Due.packed(span, rule, tolerance, 8));
        for (int i = 0; i < span; i++) {
            Due.feedSteps(x, 40);
        }
        for (int i = 0; i < span; i++) {
            Due.feedSteps(x, (which >> i & 1) == 1 ? UNKNOWN : -30);
        }
        int unknown = Integer.bitCount(which);
        String name = unknown + " of " + span + " unknown, tolerance " + tolerance + ", rule " + rule;
        due.is(name + ": row(0, 1)", x.row(0, 1), unknown <= tolerance && unknown < span ? -30 : UNKNOWN);
    }

    private static void lastKnownStep() {
        lastOf(4, 1, 2, 3, 4);
        lastOf(3, 1, 2, 3, UNKNOWN);
        lastOf(2, 1, 2, UNKNOWN, UNKNOWN);
        lastOf(1, 1, UNKNOWN, UNKNOWN, UNKNOWN);
        lastOf(3, 1, UNKNOWN, 3, UNKNOWN);
        lastOf(4, UNKNOWN, UNKNOWN, UNKNOWN, 4);
        lastOf(2, UNKNOWN, 2, UNKNOWN, UNKNOWN);
        lastOf(-4, -1, 0, 9, -4);
        lastOf(UNKNOWN, UNKNOWN, UNKNOWN, UNKNOWN, UNKNOWN);
        lastOf(7, 7);
        lastOf(0, 8, 0);
        lastOf(8, 8, UNKNOWN);
    }

    /** Between rows of other values, which must not count for it. */
    private static void lastOf(int want, int... steps) {
        RoundArchive x = due.shaped(2, 1, Due.packed(steps.length, RoundArchive.LAST, 3, 3));
        int[] others = new int[steps.length];
        Arrays.fill(others, 55);
        Due.feedSteps(x, others);
        Due.feedSteps(x, steps);
        Due.feedSteps(x, others);
        due.is("row(0, 1) of " + Arrays.toString(steps), x.row(0, 1), want);
    }

    private static void lastCompleteRows() {
        for (int room = 1; room <= 8; room++) {
            for (int span = 1; span <= 4; span++) {
                RoundArchive x = due.shaped(1, 1, Due.packed(span, RoundArchive.LAST, 0, room));
                // To the last step before row room + 2 is complete: an incomplete row takes no other one's place.
                for (int t = 1; t < (room + 3) * span; t++) {
                    x.update(t, t);
                    keptAre(x, room, span, t / span);
                }
            }
        }
    }

    private static void keptAre(RoundArchive x, int room, int span, int rows) {
        int first = Math.max(0, rows - room);
        String name = "room " + room + ", span " + span + ", " + rows + " rows: ";
        due.is(name + "the one before", x.row(0, first - 1), NONE);
        if (rows > 0) {
            due.is(name + "the first one kept", x.row(0, first), (first + 1) * span);
            due.is(name + "the last one", x.row(0, rows - 1), rows * span);
        }
        due.is(name + "the next one", x.row(0, rows), NONE);
        due.is(name + "known(0)", x.known(0), rows - first);
    }
}
