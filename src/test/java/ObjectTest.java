import java.util.List;
import java.util.function.Supplier;
import java.util.function.ToIntFunction;

/**
 * What the document says of an object as a whole: its 512 calls, that nothing but shape and update changes
 * it, and that another object's calls are none of its own.
 */
public final class ObjectTest {
    private static final int UNKNOWN = -100000;
    private static final int NONE = -200000;
    private static final int CALLS = 512;
    private static final String USED = "An object is used for at most 512 calls after it has been made";
    private static final String BEYOND = "Nothing is promised beyond the answers and state changes described above";
    private static final Due due = new Due();

    public static void main(String[] args) {
        due.test(USED + " (all but one refused)", ObjectTest::lastCallAfterRefused);
        due.test(USED + " (all but one asking)", ObjectTest::lastCallAfterAsking);
        due.test(USED + " (every moment told)", ObjectTest::lastCallAfterUpdates);
        due.test(BEYOND + " (asking changes nothing)", ObjectTest::askingChangesNothing);
        due.test(BEYOND + " (an answer stays)", ObjectTest::anAnswerStays);
        due.test("1: A new object (whatever other objects there are)", ObjectTest::objectsApart);
        due.end();
    }

    /** A call that only asks, and the answer that is due to it from made(). */
    private record Asked(String name, ToIntFunction<RoundArchive> call, int want) {
    }

    private static final List<Asked> ASKED = List.of(
        new Asked("lastTime()", RoundArchive::lastTime, 13),
        new Asked("moment(13)", x -> x.moment(13), 20),
        new Asked("moment(5)", x -> x.moment(5), UNKNOWN),
        new Asked("moment(14)", x -> x.moment(14), NONE),
        new Asked("steps()", RoundArchive::steps, 6),
        new Asked("lastStep()", RoundArchive::lastStep, 7),
        new Asked("rows(0)", x -> x.rows(0), 3),
        new Asked("row(0, 2)", x -> x.row(0, 2), 7),
        new Asked("row(0, 1)", x -> x.row(0, 1), UNKNOWN),
        new Asked("row(0, 0)", x -> x.row(0, 0), NONE),
        new Asked("rows(1)", x -> x.rows(1), 6),
        new Asked("row(1, 4)", x -> x.row(1, 4), 7),
        new Asked("row(1, 1)", x -> x.row(1, 1), NONE),
        new Asked("peak(0)", x -> x.peak(0), 7),
        new Asked("peak(1)", x -> x.peak(1), 7),
        new Asked("known(0)", x -> x.known(0), 1),
        new Asked("known(1)", x -> x.known(1), 2),
        new Asked("pending()", RoundArchive::pending, 1),
        new Asked("pendingSum()", RoundArchive::pendingSum, 20));

    /** Steps 4, 5, unknown, unknown, 7, 7 and one moment more; both archives keep less than there was. */
    private static RoundArchive made() {
        RoundArchive x = due.shaped(2, 1, Due.packed(2, RoundArchive.HIGH, 0, 2));
        Due.feedSteps(x, 4, 5, UNKNOWN, UNKNOWN, 7, 7);
        due.feed(x, 20);
        return x;
    }

    /** shape; for each of 6 steps lastTime and one update, for the known ones one more; lastTime and update. */
    private static final int CALLS_OF_MADE = 1 + 6 * 2 + 4 + 2;

    private static void lastCallAfterRefused() {
        for (Asked asked : ASKED) {
            RoundArchive x = made();
            for (int n = CALLS_OF_MADE + 1; n < CALLS; n++) {
                boolean taken = n % 2 == 0 ? x.update(13, 1) : x.shape(0, Due.packed(1, 0, 0, 1));
                due.is("call " + n + ", refused", taken, false);
            }
            due.is("call 512, " + asked.name, asked.call.applyAsInt(x), asked.want);
        }
        RoundArchive open = new RoundArchive(0, 1, 30);
        for (int n = 1; n < CALLS; n++) {
            due.is("call " + n + ", update(0, 1)", open.update(0, 1), false);
        }
        due.is("call 512, shape(1)", open.shape(1, Due.packed(1, 0, 0, 1)), true);
    }

    private static void lastCallAfterAsking() {
        for (int t : new int[] {13, 14}) {
            RoundArchive x = made();
            for (int n = CALLS_OF_MADE + 1; n < CALLS; n++) {
                Asked asked = ASKED.get(n % ASKED.size());
                due.is("call " + n + ", " + asked.name, asked.call.applyAsInt(x), asked.want);
            }
            due.is("call 512, update(" + t + ", 6)", x.update(t, 6), t == 14);
        }
    }

    /** 240 updates leave 272 calls, enough to ask for every row there was. */
    private static void lastCallAfterUpdates() {
        RoundArchive x = new RoundArchive(0, 1, 1);
        for (int t = 1; t <= 240; t++) {
            due.is("call " + t + ", update(" + t + ", " + t + ")", x.update(t, t), true);
        }
        for (int n = 241; n <= CALLS; n++) {
            int r = CALLS - n;
            due.is("call " + n + ", row(1, " + r + ")", x.row(1, r), r >= 236 && r < 240 ? r + 1 : NONE);
        }
    }

    private static void askingChangesNothing() {
        for (Asked asked : ASKED) {
            askingChangesNothing(asked, ObjectTest::made);
            askingChangesNothing(asked, ObjectTest::madeWheel);
            // Nor does asking end the time in which an archive can be shaped.
            RoundArchive open = new RoundArchive(0, 2, 1);
            asked.call.applyAsInt(open);
            due.is("shape(0) after " + asked.name, open.shape(0, Due.packed(2, 0, 0, 2)), true);
            due.is("shape(1) after " + asked.name, open.shape(1, Due.packed(2, 0, 0, 2)), true);
        }
    }

    /** One of two twins is asked many times, the other one not once. */
    private static void askingChangesNothing(Asked asked, Supplier<RoundArchive> maker) {
        RoundArchive x = maker.get();
        RoundArchive twin = maker.get();
        for (int n = 0; n < 50; n++) {
            asked.call.applyAsInt(x);
        }
        due.is("after " + asked.name + ": all", Due.answers(x), Due.answers(twin));
        Due.feedSteps(x, 3, UNKNOWN, 8);
        Due.feedSteps(twin, 3, UNKNOWN, 8);
        due.is("after " + asked.name + " and more updates: all", Due.answers(x), Due.answers(twin));
    }

    /** Known and unknown moments in every place, the step after the complete ones included. */
    private static RoundArchive madeWheel() {
        RoundArchive x = new RoundArchive(1, 5, 3);
        x.shape(1, Due.packed(2, RoundArchive.LAST, 1, 3));
        for (int t : new int[] {2, 6, 7, 9, 10, 13, 14, 19, 20, 21, 25, 27, 29}) {
            x.update(t, 37 * t % 256);
        }
        return x;
    }

    private static void anAnswerStays() {
        RoundArchive x = made();
        for (int n = 1; n <= 3; n++) {
            for (Asked asked : ASKED) {
                due.is(asked.name + ", asked for time " + n, asked.call.applyAsInt(x), asked.want);
            }
        }
    }

    /** Three objects by turns, one of them made when the others have had updates. */
    private static void objectsApart() {
        RoundArchive gauge = new RoundArchive(0, 2, 3);
        RoundArchive wheel = new RoundArchive(1, 3, 1);
        due.is("shape(0) of the gauge", gauge.shape(0, Due.packed(2, RoundArchive.LOW, 0, 2)), true);
        due.is("shape(1) of the wheel", wheel.shape(1, Due.packed(1, RoundArchive.HIGH, 0, 1)), true);
        for (int t = 1; t <= 12; t++) {
            due.is("update(" + t + ") of the gauge", gauge.update(t, -t), true);
            due.is("update(" + t + ") of the wheel", wheel.update(t, 100 * t % 256), true);
        }
        RoundArchive fresh = new RoundArchive(0, 1, 30);
        due.is("lastTime() of a new one", fresh.lastTime(), 0);
        due.is("rows(0) of a new one", fresh.rows(0), 0);
        due.is("moment(12) of a new one", fresh.moment(12), NONE);
        due.is("update(1, 5) of a new one", fresh.update(1, 5), true);
        due.rows(fresh, 0, 0, 5, NONE);
        due.moments(gauge, 11, -11, -12, NONE);
        due.rows(gauge, 0, 0, NONE, -8, -12, NONE);
        due.rows(gauge, 1, 1, NONE, -6, -8, -10, -12, NONE);
        due.moments(wheel, 11, 100, 100, NONE);
        due.rows(wheel, 0, 0, 100, 100, 100, 100, NONE);
        due.rows(wheel, 1, 2, NONE, 100, NONE);
    }
}
