import java.util.List;
import java.util.function.Function;
import java.util.function.Supplier;

/**
 * The sentences of the promises that name a boundary, each with a test of its own: the last value
 * inside, the first one outside on each side, and what a refused call leaves as it was.
 */
public final class BoundariesTest {
    private static final int UNKNOWN = -100000;
    private static final int NONE = -200000;
    private static final int GAUGE = 0;
    private static final int COUNTER = 1;
    private static final int LEAST = Integer.MIN_VALUE;
    private static final int MOST = Integer.MAX_VALUE;

    // They differ in every part, so that a refused shape that changes one part only is seen.
    private static final int SHAPE = Due.packed(3, RoundArchive.LAST, 2, 6);
    private static final int OTHER_SHAPE = Due.packed(2, RoundArchive.LOW, 1, 2);

    private static final String SUM = "13: The sum of the values of the known ones among these moments.";

    private static final Due due = new Due();

    public static void main(String[] args) {
        due.test("1: kind: 0 or less gives a GAUGE, 1 or more a COUNTER.", BoundariesTest::promise1Kind);
        due.test("1: width: of a step, clamped to 1 .. 6.", BoundariesTest::promise1Width);
        due.test("1: heartbeat: clamped to 1 .. 30.", BoundariesTest::promise1Heartbeat);
        due.test("1: No updates", BoundariesTest::promise1NoUpdates);
        due.test("1: both archives with span 1, rule MEAN, tolerance 0 and room for 4 rows.", BoundariesTest::promise1Rows);
        due.test("2: with span 1 .. 4, rule 0 .. 3, tolerance 0 .. 3 and room 1 .. 8", BoundariesTest::promise2Ends);
        due.test("2: with span 1 .. 4", BoundariesTest::promise2Span);
        due.test("2: rule 0 .. 3", BoundariesTest::promise2Rule);
        due.test("2: tolerance 0 .. 3", BoundariesTest::promise2Tolerance);
        due.test("2: room 1 .. 8", BoundariesTest::promise2Room);
        due.test("2: false, changing nothing, when a is not 0 or 1", BoundariesTest::promise2NoArchive);
        due.test("2: false, changing nothing, when .. the number is not of this form", BoundariesTest::promise2NotOfThisForm);
        due.test("2: false, changing nothing, when .. there was an update already.", BoundariesTest::promise2UpdateAlready);
        due.test("3: false, changing nothing, when t is not 1 .. 240", BoundariesTest::promise3Time);
        due.test("3: false, changing nothing, when t is .. not after the last update", BoundariesTest::promise3NotAfter);
        due.test("3: false, changing nothing, when .. v is not in the range of the kind.", BoundariesTest::promise3Value);
        due.test("3: false, changing nothing (before any update)", BoundariesTest::promise3RefusedAtFirst);
        due.test("4: 0 when there was none.", BoundariesTest::promise4None);
        due.test("5: UNKNOWN when it is unknown", BoundariesTest::promise5Unknown);
        due.test("5: NONE when t is not from 1 to lastTime()", BoundariesTest::promise5FromOneToLast);
        due.test("5: NONE when t .. is more than 30 moments before lastTime().", BoundariesTest::promise5ThirtyBefore);
        due.test("6: The number of complete steps.", BoundariesTest::promise6);
        due.test("7: UNKNOWN when it is not known", BoundariesTest::promise7Unknown);
        due.test("7: NONE when no step is complete.", BoundariesTest::promise7NoStep);
        due.test("8: The number of complete rows of archive a", BoundariesTest::promise8Complete);
        due.test("8: (kept or not)", BoundariesTest::promise8KeptOrNot);
        due.test("8: 0 when a is not 0 or 1.", BoundariesTest::promise8NoArchive);
        due.test("9: UNKNOWN when it is not known", BoundariesTest::promise9Unknown);
        due.test("9: NONE when .. row r is not complete", BoundariesTest::promise9NotComplete);
        due.test("9: NONE when .. row r is .. not kept (any more).", BoundariesTest::promise9NotKept);
        due.test("9: NONE when a is not 0 or 1", BoundariesTest::promise9NoArchive);
        due.test("10: UNKNOWN when it keeps none that is known", BoundariesTest::promise10NoneKnown);
        due.test("10: The greatest value of the known rows that archive a keeps", BoundariesTest::promise10OnlyKept);
        due.test("10: NONE when a is not 0 or 1.", BoundariesTest::promise10NoArchive);
        due.test("11: How many of the rows that archive a keeps are known", BoundariesTest::promise11HowMany);
        due.test("11: 0 when a is not 0 or 1.", BoundariesTest::promise11NoArchive);
        due.test("12: 0 .. width - 1.", BoundariesTest::promise12);
        due.test(SUM + " (none of these moments)", BoundariesTest::promise13NoMoments);
        due.test(SUM + " (all of them unknown)", BoundariesTest::promise13AllUnknown);
        due.test(SUM + " (some of them unknown)", BoundariesTest::promise13SomeUnknown);
        due.end();
    }

    /** Both archives with the same shape, width 2 and heartbeat 1, and one update for each of the values. */
    private static RoundArchive made(int kind, int... values) {
        RoundArchive x = new RoundArchive(kind, 2, 1);
        x.shape(0, SHAPE);
        x.shape(1, SHAPE);
        due.feed(x, values);
        return x;
    }

    /**
     * Known and unknown steps in which SHAPE differs from a shape that has a part of OTHER_SHAPE. It answers
     * what all methods do on the way and at the end, for moment tells of the last thirty moments only.
     */
    private static List<Integer> goOn(RoundArchive x) {
        Due.feedSteps(x, 5, 1, 3, 7, UNKNOWN, UNKNOWN, 2, 9, UNKNOWN, UNKNOWN, 6, 11);
        List<Integer> all = Due.answers(x);
        Due.feedSteps(x, 4, UNKNOWN, UNKNOWN, UNKNOWN, 8, 10, UNKNOWN, UNKNOWN, UNKNOWN, 12, 3, 9);
        all.addAll(Due.answers(x));
        return all;
    }

    /** The call answers as due, and after it no answer tells its object from a twin, neither now nor later. */
    private static void changesNothing(String call, Supplier<RoundArchive> maker, Function<RoundArchive, Object> calling, Object want) {
        RoundArchive x = maker.get();
        RoundArchive twin = maker.get();
        due.is(call, calling.apply(x), want);
        due.is("after " + call + ": all", Due.answers(x), Due.answers(twin));
        due.is("after " + call + " and more updates: all", goOn(x), goOn(twin));
    }

    private static void refusedShape(int a, int packed, Supplier<RoundArchive> maker) {
        changesNothing("shape(" + a + ", " + packed + ")", maker, x -> x.shape(a, packed), false);
    }

    private static void refusedUpdate(int t, int v, Supplier<RoundArchive> maker) {
        changesNothing("update(" + t + ", " + v + ")", maker, x -> x.update(t, v), false);
    }

    private static void promise1Kind() {
        for (int kind : new int[] {LEAST, -1, 0}) {
            RoundArchive x = new RoundArchive(kind, 1, 2);
            due.is("kind " + kind + ": update(2, -7)", x.update(2, -7), true);
            due.moments(x, 1, -7, -7);
        }
        for (int kind : new int[] {1, 2, MOST}) {
            RoundArchive x = new RoundArchive(kind, 1, 2);
            due.is("kind " + kind + ": update(2, -7)", x.update(2, -7), false);
            due.is("kind " + kind + ": update(2, 7)", x.update(2, 7), true);
            due.moments(x, 1, 3, 4);
        }
    }

    private static void promise1Width() {
        int[][] givenAndUsed = {{LEAST, 1}, {-1, 1}, {0, 1}, {1, 1}, {2, 2}, {5, 5}, {6, 6}, {7, 6}, {8, 6}, {MOST, 6}};
        for (int[] width : givenAndUsed) {
            RoundArchive x = new RoundArchive(GAUGE, width[0], 30);
            String name = "width " + width[0] + ": ";
            if (width[1] > 1) {
                x.update(width[1] - 1, 1);
                due.is(name + "steps(), one moment short", x.steps(), 0);
            }
            x.update(width[1], 1);
            due.is(name + "steps(), exactly one", x.steps(), 1);
            x.update(2 * width[1], 1);
            due.is(name + "steps(), exactly two", x.steps(), 2);
        }
    }

    private static void promise1Heartbeat() {
        int[][] givenAndUsed = {{LEAST, 1}, {-1, 1}, {0, 1}, {1, 1}, {2, 2}, {29, 29}, {30, 30}, {31, 30}, {32, 30}, {MOST, 30}};
        for (int[] heartbeat : givenAndUsed) {
            RoundArchive x = new RoundArchive(GAUGE, 1, heartbeat[0]);
            x.update(heartbeat[1], 5);
            due.is("heartbeat " + heartbeat[0] + ", in time: moment(1)", x.moment(1), 5);
            RoundArchive late = new RoundArchive(GAUGE, 1, heartbeat[0]);
            late.update(heartbeat[1] + 1, 5);
            due.is("heartbeat " + heartbeat[0] + ", one late: moment(1)", late.moment(1), UNKNOWN);
        }
    }

    private static void promise1NoUpdates() {
        for (int kind = GAUGE; kind <= COUNTER; kind++) {
            RoundArchive x = new RoundArchive(kind, 2, 1);
            due.is("lastTime()", x.lastTime(), 0);
            due.is("steps()", x.steps(), 0);
            due.is("lastStep()", x.lastStep(), NONE);
            due.is("pending()", x.pending(), 0);
            due.is("pendingSum()", x.pendingSum(), 0);
            due.moments(x, -1, NONE, NONE, NONE);
            for (int a = 0; a < 2; a++) {
                due.is("rows(" + a + ")", x.rows(a), 0);
                due.is("peak(" + a + ")", x.peak(a), UNKNOWN);
                due.is("known(" + a + ")", x.known(a), 0);
                due.rows(x, a, -1, NONE, NONE, NONE);
                due.is("shape(" + a + "), still open", x.shape(a, SHAPE), true);
            }
            due.is("update(1, 0)", x.update(1, 0), true);
        }
    }

    /** The rule and the tolerance can't be told from outside: with span 1 all of them answer the same. */
    private static void promise1Rows() {
        RoundArchive x = new RoundArchive(GAUGE, 2, 1);
        due.feed(x, 3);
        bothRows(x, 0, 0);
        due.feed(x, 4);
        bothRows(x, 1, 1, 3, NONE);
        Due.feedSteps(x, UNKNOWN);
        bothRows(x, 2, 1, 3, UNKNOWN, NONE);
        due.feed(x, -3, -4, 9, 9);
        bothRows(x, 4, 3, 3, UNKNOWN, -4, 9, NONE);
        due.feed(x, 8);
        bothRows(x, 4, 3, 3, UNKNOWN, -4, 9, NONE);
        due.feed(x, 8);
        bothRows(x, 5, 3, NONE, UNKNOWN, -4, 9, 8, NONE);
        Due.feedSteps(x, UNKNOWN);
        bothRows(x, 6, 3, NONE, NONE, -4, 9, 8, UNKNOWN, NONE);
    }

    private static void bothRows(RoundArchive x, int rows, int known, int... values) {
        for (int a = 0; a < 2; a++) {
            due.is("rows(" + a + ")", x.rows(a), rows);
            due.is("known(" + a + ")", x.known(a), known);
            due.rows(x, a, 0, values);
        }
    }

    /** Archive a of a new object takes the number or doesn't. */
    private static void shapeIs(int packed, boolean want) {
        for (int a = 0; a < 2; a++) {
            due.is("shape(" + a + ", " + packed + ")", new RoundArchive(GAUGE, 1, 1).shape(a, packed), want);
        }
    }

    private static void promise2Ends() {
        int least = 1 + 512;
        int most = 4 + 8 * 3 + 64 * 3 + 512 * 8;
        shapeIs(least - 1, false);
        shapeIs(least, true);
        shapeIs(most, true);
        shapeIs(most + 1, false);
    }

    private static void promise2Span() {
        for (int span = 1; span <= 4; span++) {
            RoundArchive x = due.shaped(1, 30, Due.packed(span, 0, 0, 1));
            if (span > 1) {
                x.update(span - 1, 1);
                due.is("span " + span + ": rows(0), one step short", x.rows(0), 0);
            }
            x.update(span, 1);
            due.is("span " + span + ": rows(0)", x.rows(0), 1);
        }
        for (int span : new int[] {-1, 0, 5, 6, 7, 8}) {
            shapeIs(Due.packed(span, 0, 0, 1), false);
            shapeIs(Due.packed(span, 3, 3, 8), false);
        }
    }

    private static void promise2Rule() {
        int[] want = {-1, -8, 5, 1};
        for (int rule = 0; rule <= 3; rule++) {
            RoundArchive x = due.shaped(1, 1, Due.packed(4, rule, 0, 1));
            due.feed(x, 0, -8, 5, 1);
            due.is("rule " + rule + ": row(0, 0)", x.row(0, 0), want[rule]);
        }
        for (int rule : new int[] {-1, 4, 5, 6, 7}) {
            shapeIs(Due.packed(1, rule, 0, 1), false);
            shapeIs(Due.packed(4, rule, 3, 8), false);
        }
    }

    private static void promise2Tolerance() {
        int[][] unknownFirst = {
            {1, 1, 1, 1}, {UNKNOWN, 1, 1, 1}, {UNKNOWN, UNKNOWN, 1, 1}, {UNKNOWN, UNKNOWN, UNKNOWN, 1},
            {UNKNOWN, UNKNOWN, UNKNOWN, UNKNOWN}};
        for (int tolerance = 0; tolerance <= 3; tolerance++) {
            RoundArchive x = due.shaped(2, 1, Due.packed(4, 0, tolerance, 2));
            Due.feedSteps(x, unknownFirst[tolerance]);
            Due.feedSteps(x, unknownFirst[tolerance + 1]);
            due.is("tolerance " + tolerance + ": row(0, 0)", x.row(0, 0), 1);
            due.is("tolerance " + tolerance + ": row(0, 1)", x.row(0, 1), UNKNOWN);
        }
        for (int tolerance : new int[] {-1, 4, 5, 6, 7}) {
            shapeIs(Due.packed(1, 0, tolerance, 1), false);
            shapeIs(Due.packed(4, 3, tolerance, 8), false);
        }
    }

    private static void promise2Room() {
        for (int room = 1; room <= 8; room++) {
            RoundArchive x = due.shaped(1, 30, Due.packed(1, 0, 0, room));
            x.update(room, 1);
            due.is("room " + room + ": row(0, 0), full", x.row(0, 0), 1);
            x.update(room + 1, 1);
            due.is("room " + room + ": row(0, 0), one more", x.row(0, 0), NONE);
            due.is("room " + room + ": row(0, 1), one more", x.row(0, 1), 1);
        }
        for (int room : new int[] {-8, -1, 0, 9, 10, 16, 17}) {
            shapeIs(Due.packed(1, 0, 0, room), false);
            shapeIs(Due.packed(4, 3, 3, room), false);
        }
    }

    private static void promise2NoArchive() {
        for (int a : Due.NO_ARCHIVE) {
            refusedShape(a, OTHER_SHAPE, () -> made(GAUGE));
        }
        // The last ones inside, and each of them changes its own archive alone.
        for (int a = 0; a < 2; a++) {
            RoundArchive x = made(GAUGE);
            due.is("shape(" + a + ")", x.shape(a, OTHER_SHAPE), true);
            goOn(x);
            due.is("rows(" + a + "), shaped again", x.rows(a), 12);
            due.is("rows(" + (1 - a) + "), left alone", x.rows(1 - a), 8);
        }
    }

    private static void promise2NotOfThisForm() {
        int[] wrong = {
            Due.packed(0, 1, 1, 2), Due.packed(5, 1, 1, 2), Due.packed(7, 1, 1, 2),
            Due.packed(2, 4, 1, 2), Due.packed(2, 7, 1, 2),
            Due.packed(2, 1, 4, 2), Due.packed(2, 1, 7, 2),
            Due.packed(2, 1, 1, 0), Due.packed(2, 1, 1, 9), Due.packed(2, 1, 1, -1),
            -1, 0, 512, 4317, -OTHER_SHAPE, OTHER_SHAPE + LEAST, OTHER_SHAPE + (1 << 16), LEAST, MOST};
        for (int packed : wrong) {
            refusedShape(0, packed, () -> made(GAUGE));
            refusedShape(1, packed, () -> made(GAUGE));
        }
        RoundArchive x = made(GAUGE);
        x.shape(0, 0);
        due.is("shape(0) after a refused one", x.shape(0, OTHER_SHAPE), true);
    }

    private static void promise2UpdateAlready() {
        for (int a = 0; a < 2; a++) {
            refusedShape(a, OTHER_SHAPE, () -> made(GAUGE, 1));
            refusedShape(a, OTHER_SHAPE, () -> made(GAUGE, 0, 0));
            refusedShape(a, OTHER_SHAPE, () -> made(COUNTER, 0));
            refusedShape(a, OTHER_SHAPE, () -> unknownUpTo(GAUGE, 2));
            refusedShape(a, OTHER_SHAPE, () -> unknownUpTo(COUNTER, 240));
            refusedShape(a, SHAPE, () -> made(GAUGE, 1));
        }
        RoundArchive x = made(GAUGE);
        x.update(0, 1);
        x.update(241, 1);
        x.update(1, 1001);
        due.is("shape(0), refused updates are none", x.shape(0, OTHER_SHAPE), true);
        due.is("shape(1), refused updates are none", x.shape(1, OTHER_SHAPE), true);
    }

    private static RoundArchive unknownUpTo(int kind, int t) {
        RoundArchive x = made(kind);
        due.is("update(" + t + ", 9)", x.update(t, 9), true);
        return x;
    }

    private static void promise3Time() {
        for (int kind = GAUGE; kind <= COUNTER; kind++) {
            int k = kind;
            for (int t : new int[] {1, 240}) {
                RoundArchive x = made(kind);
                due.is("update(" + t + ", 7) on a new object", x.update(t, 7), true);
                due.is("lastTime()", x.lastTime(), t);
            }
            for (int t : new int[] {LEAST, -1, 0, 241, 242, MOST}) {
                refusedUpdate(t, 7, () -> made(k));
                refusedUpdate(t, 7, () -> made(k, 100, 200, 50));
                refusedUpdate(t, 7, () -> unknownUpTo(k, 239));
                refusedUpdate(t, 7, () -> unknownUpTo(k, 240));
            }
        }
    }

    private static void promise3NotAfter() {
        for (int kind = GAUGE; kind <= COUNTER; kind++) {
            int k = kind;
            for (int t = 1; t <= 3; t++) {
                refusedUpdate(t, 7, () -> made(k, 100, 200, 50));
            }
            refusedUpdate(1, 7, () -> unknownUpTo(k, 5));
            refusedUpdate(4, 7, () -> unknownUpTo(k, 5));
            refusedUpdate(5, 7, () -> unknownUpTo(k, 5));
            refusedUpdate(239, 7, () -> unknownUpTo(k, 240));
            refusedUpdate(240, 7, () -> unknownUpTo(k, 240));
            due.is("update(4, 7), just after", made(kind, 100, 200, 50).update(4, 7), true);
            due.is("update(240, 7), the last one", unknownUpTo(kind, 239).update(240, 7), true);
        }
    }

    private static void promise3Value() {
        for (int v : new int[] {-1000, -999, 999, 1000}) {
            RoundArchive x = made(GAUGE, v);
            due.moments(x, 1, v);
        }
        for (int v : new int[] {LEAST, NONE, UNKNOWN, -1001, 1001, MOST}) {
            refusedUpdate(4, v, () -> made(GAUGE, 100, 200, 50));
            refusedUpdate(5, v, () -> made(GAUGE, 100, 200, 50));
        }
        for (int v : new int[] {0, 1, 254, 255}) {
            RoundArchive x = made(COUNTER, v);
            due.moments(x, 1, v);
        }
        for (int v : new int[] {LEAST, NONE, UNKNOWN, -256, -1, 256, 257, 1000, MOST}) {
            refusedUpdate(4, v, () -> made(COUNTER, 100, 200, 50));
            refusedUpdate(5, v, () -> made(COUNTER, 100, 200, 50));
        }
    }

    private static void promise3RefusedAtFirst() {
        for (int t : new int[] {1, 2, 240}) {
            refusedUpdate(t, -1001, () -> made(GAUGE));
            refusedUpdate(t, 1001, () -> made(GAUGE));
            refusedUpdate(t, -1, () -> made(COUNTER));
            refusedUpdate(t, 256, () -> made(COUNTER));
        }
        refusedUpdate(0, 1001, () -> made(GAUGE));
        refusedUpdate(241, 256, () -> made(COUNTER));
    }

    private static void promise4None() {
        RoundArchive x = new RoundArchive(GAUGE, 6, 30);
        due.is("lastTime() of a new object", x.lastTime(), 0);
        x.shape(0, SHAPE);
        due.is("lastTime() after a shape", x.lastTime(), 0);
        x.update(0, 5);
        x.update(241, 5);
        x.update(9, 1001);
        due.is("lastTime() after refused updates", x.lastTime(), 0);
        due.feed(x, 5);
        due.is("lastTime() after an update at 1", x.lastTime(), 1);
        x.update(240, 5);
        due.is("lastTime() after an update at 240", x.lastTime(), 240);
        x.update(240, 5);
        x.update(241, 5);
        due.is("lastTime() after refused ones behind it", x.lastTime(), 240);
    }

    private static void promise5Unknown() {
        RoundArchive x = new RoundArchive(GAUGE, 1, 2);
        x.update(3, 8);
        due.moments(x, 1, UNKNOWN, UNKNOWN, UNKNOWN, NONE);
        x.update(5, 0);
        due.moments(x, 3, UNKNOWN, 0, 0, NONE);
        x.update(8, 8);
        due.moments(x, 4, 0, 0, UNKNOWN, UNKNOWN, UNKNOWN, NONE);
    }

    private static void promise5FromOneToLast() {
        RoundArchive x = new RoundArchive(GAUGE, 1, 30);
        due.moments(x, -1, NONE, NONE, NONE);
        due.feed(x, 4);
        due.moments(x, -1, NONE, NONE, 4, NONE);
        x.update(30, 6);
        due.moments(x, -1, NONE, NONE, 4, 6);
        due.moments(x, 29, 6, 6, NONE);
        x.update(240, 6);
        due.moments(x, 239, UNKNOWN, UNKNOWN, NONE, NONE);
        for (int t : new int[] {LEAST, LEAST + 1, -1, 0, 7, 8, 241, MOST - 1, MOST}) {
            changesNothing("moment(" + t + ")", () -> made(GAUGE, 1, 2, 3, 4, 5, 6), y -> y.moment(t), NONE);
        }
    }

    private static void promise5ThirtyBefore() {
        RoundArchive x = new RoundArchive(GAUGE, 1, 29);
        due.feed(x, 3, 4);
        x.update(31, 5);
        due.moments(x, 0, NONE, 3, 4);
        due.feed(x, 6);
        due.moments(x, 0, NONE, NONE, 4, 5);
        due.feed(x, 6);
        due.moments(x, 0, NONE, NONE, NONE, 5);
        x.update(240, 7);
        due.moments(x, 208, NONE, NONE, UNKNOWN, UNKNOWN);
        RoundArchive known = new RoundArchive(GAUGE, 1, 30);
        for (int t = 30; t <= 240; t += 30) {
            known.update(t, t);
        }
        due.moments(known, 208, NONE, NONE, 210, 240);
        due.is("moment(1), long ago", known.moment(1), NONE);
    }

    private static void promise6() {
        for (int width = 1; width <= 6; width++) {
            String name = "width " + width + ": steps(), ";
            RoundArchive x = new RoundArchive(GAUGE, width, 1);
            due.is(name + "none", x.steps(), 0);
            for (int t = 1; t < width; t++) {
                x.update(t, 1);
            }
            due.is(name + "one moment short of one", x.steps(), 0);
            x.update(width, 1);
            due.is(name + "exactly one", x.steps(), 1);
            if (width > 1) {
                x.update(2 * width - 1, 1);
                due.is(name + "one moment short of two", x.steps(), 1);
                x.update(239, 1);
                due.is(name + "one moment short of the greatest number", x.steps(), 240 / width - 1);
            }
            x.update(240, 1);
            due.is(name + "the greatest number", x.steps(), 240 / width);
            x.update(241, 1);
            due.is(name + "a refused update", x.steps(), 240 / width);
        }
    }

    private static void promise7Unknown() {
        RoundArchive x = new RoundArchive(GAUGE, 4, 1);
        x.update(2, 9);
        due.feed(x, 5, 6);
        due.is("lastStep(), 2 of 4 unknown", x.lastStep(), 5);
        x.update(7, 9);
        due.is("lastStep(), the next is not complete", x.lastStep(), 5);
        due.feed(x, 7);
        due.is("lastStep(), 3 of 4 unknown", x.lastStep(), UNKNOWN);
        due.feed(x, 1, 1, 1);
        due.is("lastStep(), still the one before", x.lastStep(), UNKNOWN);
        due.feed(x, 1);
        due.is("lastStep(), all known", x.lastStep(), 1);
    }

    private static void promise7NoStep() {
        for (int width = 1; width <= 6; width++) {
            RoundArchive x = new RoundArchive(GAUGE, width, 1);
            due.is("width " + width + ": lastStep() at first", x.lastStep(), NONE);
            for (int t = 1; t < width; t++) {
                x.update(t, 3);
                due.is("width " + width + ", time " + t + ": lastStep()", x.lastStep(), NONE);
            }
            x.update(width, 3);
            due.is("width " + width + ": lastStep(), exactly one", x.lastStep(), 3);
            RoundArchive unknown = new RoundArchive(GAUGE, width, 1);
            unknown.update(width - 1, 3);
            due.is("width " + width + ": lastStep(), moments short and late", unknown.lastStep(), NONE);
        }
    }

    private static void promise8Complete() {
        for (int span = 1; span <= 4; span++) {
            String name = "span " + span + ": rows(0), ";
            RoundArchive x = due.shaped(6, 30, Due.packed(span, 0, 0, 1));
            due.is(name + "none", x.rows(0), 0);
            x.update(6 * span - 1, 1);
            due.is(name + "one moment short of one", x.rows(0), 0);
            x.update(6 * span, 1);
            due.is(name + "exactly one", x.rows(0), 1);
            x.update(12 * span - 1, 1);
            due.is(name + "one moment short of two", x.rows(0), 1);
            x.update(12 * span, 1);
            due.is(name + "exactly two", x.rows(0), 2);
            x.update(240, 1);
            due.is(name + "the greatest number", x.rows(0), 40 / span);
        }
    }

    private static void promise8KeptOrNot() {
        for (int room = 1; room <= 8; room++) {
            RoundArchive x = due.shaped(1, 1, Due.packed(1, 0, 0, room));
            for (int t = 1; t <= 240; t++) {
                x.update(t, 1);
                if (t >= room && t <= room + 2) {
                    due.is("room " + room + ": rows(0)", x.rows(0), t);
                }
            }
            due.is("room " + room + ": rows(0), the greatest number", x.rows(0), 240);
            due.is("rows(1), the greatest number", x.rows(1), 240);
        }
    }

    private static void promise8NoArchive() {
        for (int a : Due.NO_ARCHIVE) {
            changesNothing("rows(" + a + ")", BoundariesTest::withRows, x -> x.rows(a), 0);
        }
        due.is("rows(0)", withRows().rows(0), 3);
        due.is("rows(1)", withRows().rows(1), 9);
    }

    /** Archive 0 with rows 4, 7 and 8, archive 1 with the steps themselves. */
    private static RoundArchive withRows() {
        RoundArchive x = due.shaped(2, 1, Due.packed(3, RoundArchive.HIGH, 1, 6));
        Due.feedSteps(x, 1, 4, 2, 7, UNKNOWN, 3, 5, 8, 6);
        return x;
    }

    private static void promise9Unknown() {
        RoundArchive x = due.shaped(2, 1, Due.packed(2, RoundArchive.LOW, 1, 8));
        Due.feedSteps(x, 4, 5, UNKNOWN, 6, 7, UNKNOWN, UNKNOWN, UNKNOWN, 8, 8);
        due.rows(x, 0, 0, 4, 6, 7, UNKNOWN, 8, NONE);
        due.rows(x, 1, 5, NONE, UNKNOWN, UNKNOWN, 8, 8, NONE);
    }

    private static void promise9NotComplete() {
        for (int span = 1; span <= 4; span++) {
            RoundArchive x = due.shaped(6, 30, Due.packed(span, 0, 0, 8));
            due.rows(x, 0, -1, NONE, NONE, NONE);
            x.update(6 * span - 1, 2);
            due.rows(x, 0, -1, NONE, NONE, NONE);
            x.update(6 * span, 2);
            due.rows(x, 0, -1, NONE, 2, NONE);
            x.update(12 * span - 1, 3);
            due.rows(x, 0, -1, NONE, 2, NONE, NONE);
            x.update(12 * span, 3);
            due.rows(x, 0, -1, NONE, 2, 3, NONE);
        }
        for (int r : new int[] {LEAST, LEAST + 1, -1, 3, 4, MOST - 1, MOST}) {
            changesNothing("row(0, " + r + ")", BoundariesTest::withRows, x -> x.row(0, r), NONE);
        }
    }

    private static void promise9NotKept() {
        RoundArchive x = due.shaped(2, 1, Due.packed(2, RoundArchive.MEAN, 0, 2));
        Due.feedSteps(x, 1, 1, UNKNOWN, 2);
        due.rows(x, 0, 0, 1, UNKNOWN, NONE);
        Due.feedSteps(x, 3);
        due.rows(x, 0, 0, 1, UNKNOWN, NONE);
        Due.feedSteps(x, 3);
        due.rows(x, 0, 0, NONE, UNKNOWN, 3, NONE);
        Due.feedSteps(x, 4, 4);
        due.rows(x, 0, 0, NONE, NONE, 3, 4, NONE);
        x.update(240, 9);
        due.rows(x, 0, 57, NONE, UNKNOWN, UNKNOWN, NONE);
        due.rows(x, 0, -1, NONE, NONE, NONE, NONE, NONE);
        due.rows(x, 1, 115, NONE, UNKNOWN, UNKNOWN, UNKNOWN, UNKNOWN, NONE);
    }

    private static void promise9NoArchive() {
        for (int a : Due.NO_ARCHIVE) {
            for (int r = -1; r <= 9; r++) {
                due.is("row(" + a + ", " + r + ")", withRows().row(a, r), NONE);
            }
            changesNothing("row(" + a + ", 2)", BoundariesTest::withRows, x -> x.row(a, 2), NONE);
        }
        due.rows(withRows(), 0, 0, 4, 7, 8, NONE);
        due.rows(withRows(), 1, 4, NONE, 3, 5, 8, 6, NONE);
    }

    private static void promise10NoneKnown() {
        RoundArchive x = due.shaped(2, 1, Due.packed(2, RoundArchive.MEAN, 0, 2));
        due.is("peak(0), no row", x.peak(0), UNKNOWN);
        Due.feedSteps(x, 5);
        due.is("peak(0), a row that is not complete", x.peak(0), UNKNOWN);
        Due.feedSteps(x, UNKNOWN);
        due.is("peak(0), one unknown row", x.peak(0), UNKNOWN);
        Due.feedSteps(x, -1000, -1000);
        due.is("peak(0), one known row of the least value", x.peak(0), -1000);
        Due.feedSteps(x, UNKNOWN, 7);
        due.is("peak(0), the known row is the first one kept", x.peak(0), -1000);
        Due.feedSteps(x, UNKNOWN, 7);
        due.is("peak(0), the known row is not kept", x.peak(0), UNKNOWN);
        Due.feedSteps(x, 1000, 1000);
        due.is("peak(0), one known row of the greatest value", x.peak(0), 1000);
    }

    private static void promise10OnlyKept() {
        for (int room = 1; room <= 8; room++) {
            RoundArchive x = due.shaped(1, 30, Due.packed(1, 0, 0, room));
            due.feed(x, 50);
            x.update(room, -3);
            due.is("room " + room + ": peak(0), the greatest is the first one kept", x.peak(0), 50);
            x.update(room + 1, -4);
            due.is("room " + room + ": peak(0), the greatest is not kept", x.peak(0), room > 1 ? -3 : -4);
        }
        RoundArchive x = due.shaped(2, 1, Due.packed(1, 0, 0, 3));
        Due.feedSteps(x, -9, -9, -2);
        due.is("peak(0), the last one", x.peak(0), -2);
        due.feed(x, 8);
        due.is("peak(0), a greater one is not complete", x.peak(0), -2);
    }

    private static void promise10NoArchive() {
        for (int a : Due.NO_ARCHIVE) {
            due.is("peak(" + a + ") of a new object", new RoundArchive(GAUGE, 1, 1).peak(a), NONE);
            changesNothing("peak(" + a + ")", BoundariesTest::withRows, x -> x.peak(a), NONE);
        }
        due.is("peak(0)", withRows().peak(0), 8);
        due.is("peak(1)", withRows().peak(1), 8);
        due.is("peak(0) of a new object", new RoundArchive(GAUGE, 1, 1).peak(0), UNKNOWN);
        due.is("peak(1) of a new object", new RoundArchive(GAUGE, 1, 1).peak(1), UNKNOWN);
    }

    private static void promise11HowMany() {
        for (int room = 1; room <= 8; room++) {
            RoundArchive x = due.shaped(2, 1, Due.packed(1, 0, 0, room));
            due.is("room " + room + ": known(0), none", x.known(0), 0);
            for (int rows = 1; rows <= room + 2; rows++) {
                Due.feedSteps(x, 0);
                due.is("room " + room + ": known(0) of " + rows, x.known(0), Math.min(rows, room));
            }
            for (int unknown = 1; unknown <= room + 1; unknown++) {
                Due.feedSteps(x, UNKNOWN);
                due.is("room " + room + ": known(0), then " + unknown + " unknown", x.known(0), Math.max(room - unknown, 0));
            }
        }
    }

    private static void promise11NoArchive() {
        for (int a : Due.NO_ARCHIVE) {
            changesNothing("known(" + a + ")", BoundariesTest::withRows, x -> x.known(a), 0);
        }
        due.is("known(0)", withRows().known(0), 3);
        due.is("known(1)", withRows().known(1), 4);
    }

    private static void promise12() {
        for (int width = 1; width <= 6; width++) {
            String name = "width " + width + ": pending(), ";
            RoundArchive x = new RoundArchive(GAUGE, width, 1);
            due.is(name + "none", x.pending(), 0);
            for (int t = 1; t < width; t++) {
                x.update(t, 1);
                due.is(name + "moments of the first step", x.pending(), t);
            }
            x.update(width, 1);
            due.is(name + "a complete step", x.pending(), 0);
            x.update(3 * width - 1, 1);
            due.is(name + "unknown ones, the most there can be", x.pending(), width - 1);
            x.update(3 * width, 1);
            due.is(name + "unknown and known ones complete a step", x.pending(), 0);
            x.update(239, 1);
            due.is(name + "one moment short of the last step", x.pending(), width - 1);
            x.update(240, 1);
            due.is(name + "the last step", x.pending(), 0);
        }
    }

    private static void promise13NoMoments() {
        for (int width = 1; width <= 6; width++) {
            RoundArchive x = new RoundArchive(GAUGE, width, 1);
            due.is("width " + width + ": pendingSum() at first", x.pendingSum(), 0);
            for (int t = 1; t < width; t++) {
                x.update(t, 1000);
                due.is("width " + width + ", time " + t + ": pendingSum()", x.pendingSum(), 1000 * t);
            }
            x.update(width, 1000);
            due.is("width " + width + ": pendingSum(), a complete step", x.pendingSum(), 0);
            for (int t = 1; t < width; t++) {
                x.update(width + t, -1000);
                due.is("width " + width + ", next step: pendingSum()", x.pendingSum(), -1000 * t);
            }
            x.update(2 * width, -1000);
            due.is("width " + width + ": pendingSum(), two complete steps", x.pendingSum(), 0);
        }
    }

    private static void promise13AllUnknown() {
        for (int moments = 2; moments <= 5; moments++) {
            RoundArchive x = new RoundArchive(GAUGE, 6, 1);
            x.update(moments, 7);
            due.is(moments + " unknown: pendingSum()", x.pendingSum(), 0);
        }
        RoundArchive x = new RoundArchive(GAUGE, 6, 1);
        due.feed(x, 1, 2, 3, 4, 5);
        x.update(7, 9);
        due.is("a step before and 1 unknown: pendingSum()", x.pendingSum(), 0);
        x.update(239, 9);
        due.is("the most there can be, unknown: pendingSum()", x.pendingSum(), 0);
    }

    private static void promise13SomeUnknown() {
        RoundArchive x = new RoundArchive(GAUGE, 6, 1);
        due.feed(x, 40);
        x.update(3, 7);
        due.is("unknown ones last: pendingSum()", x.pendingSum(), 40);
        due.feed(x, -5);
        due.is("unknown ones between: pendingSum()", x.pendingSum(), 35);
        due.feed(x, -50);
        due.is("a sum below 0: pendingSum()", x.pendingSum(), -15);
        x.update(8, 7);
        due.feed(x, 11, 12);
        due.is("unknown ones first: pendingSum()", x.pendingSum(), 23);
        RoundArchive wheel = new RoundArchive(COUNTER, 6, 1);
        wheel.update(2, 250);
        due.feed(wheel, 4, 5);
        due.is("a counter: pendingSum()", wheel.pendingSum(), 11);
    }
}
