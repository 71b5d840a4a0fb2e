/** Keeps the history of one measured quantity in archives of a fixed size. */
public final class RoundArchive {
    public static final int UNKNOWN = -100000;
    public static final int NONE = -200000;
    public static final int MEAN = 0;
    public static final int LOW = 1;
    public static final int HIGH = 2;
    public static final int LAST = 3;

    private static final int LAST_MOMENT = 240;
    private static final int MOMENT_CELLS = 241;
    private static final int MOMENTS_BACK = 30;
    private static final int ARCHIVES = 2;
    private static final int MAX_WIDTH = 6;
    private static final int MAX_HEARTBEAT = 30;
    private static final int MAX_SPAN = 4;
    private static final int MAX_TOLERANCE = 3;
    private static final int MAX_ROOM = 8;
    private static final int ROOM_AT_FIRST = 4;
    private static final int GAUGE_LIMIT = 1000;
    private static final int WHEEL_STATES = 256;

    private final boolean counter;
    private final int width;
    private final int heartbeat;

    // One entry for each archive. Spans and the width are never below 1, so they can divide.
    private final int[] span = new int[ARCHIVES];
    private final int[] rule = new int[ARCHIVES];
    private final int[] tolerance = new int[ARCHIVES];
    private final int[] room = new int[ARCHIVES];

    // All moments are few enough to keep, so steps and rows are made anew from them whenever they
    // are asked for: there is no second copy that could differ. Cell t is moment t, cell 0 is idle.
    private final int[] moments = new int[MOMENT_CELLS];
    private int latest = 0;
    private int wheel = 0;

    public RoundArchive(int kind, int width, int heartbeat) {
        this.counter = kind >= 1;
        this.width = clamped(width, MAX_WIDTH);
        this.heartbeat = clamped(heartbeat, MAX_HEARTBEAT);
        for (int a = 0; a < ARCHIVES; a++) {
            span[a] = 1;
            rule[a] = MEAN;
            tolerance[a] = 0;
            room[a] = ROOM_AT_FIRST;
        }
    }

    public boolean shape(int a, int packed) {
        // The top part keeps its sign and all its bits, so a number too small or too great fails on it.
        int newSpan = packed & 7;
        int newRule = (packed >> 3) & 7;
        int newTolerance = (packed >> 6) & 7;
        int newRoom = packed >> 9;
        if (!isArchive(a) || latest > 0) {
            return false;
        }
        if (newSpan < 1 || newSpan > MAX_SPAN || newRule > LAST) {
            return false;
        }
        if (newTolerance > MAX_TOLERANCE || newRoom < 1 || newRoom > MAX_ROOM) {
            return false;
        }
        span[a] = newSpan;
        rule[a] = newRule;
        tolerance[a] = newTolerance;
        room[a] = newRoom;
        return true;
    }

    public boolean update(int t, int v) {
        if (t <= latest || t > LAST_MOMENT || !isInRange(v)) {
            return false;
        }
        if (t - latest > heartbeat) {
            fillUpTo(t, UNKNOWN);
        } else if (counter) {
            spreadUpTo(t, v);
        } else {
            fillUpTo(t, v);
        }
        // Also after unknown moments: the wheel has turned all the same.
        wheel = v;
        latest = t;
        return true;
    }

    public int lastTime() {
        return latest;
    }

    public int moment(int t) {
        if (t < 1 || t > latest || latest - t > MOMENTS_BACK) {
            return NONE;
        }
        return moments[t];
    }

    public int steps() {
        return latest / width;
    }

    public int lastStep() {
        int complete = steps();
        return complete == 0 ? NONE : stepValue(complete - 1);
    }

    public int rows(int a) {
        return isArchive(a) ? completeRows(a) : 0;
    }

    public int row(int a, int r) {
        if (!isArchive(a) || r < firstKeptRow(a) || r >= completeRows(a)) {
            return NONE;
        }
        return rowValue(a, r);
    }

    public int peak(int a) {
        if (!isArchive(a)) {
            return NONE;
        }
        int complete = completeRows(a);
        // UNKNOWN lies below every value, so it stays only where no kept row is known.
        int greatest = UNKNOWN;
        for (int r = firstKeptRow(a); r < complete; r++) {
            int value = rowValue(a, r);
            if (value > greatest) {
                greatest = value;
            }
        }
        return greatest;
    }

    public int known(int a) {
        if (!isArchive(a)) {
            return 0;
        }
        int complete = completeRows(a);
        int count = 0;
        for (int r = firstKeptRow(a); r < complete; r++) {
            if (rowValue(a, r) != UNKNOWN) {
                count++;
            }
        }
        return count;
    }

    public int pending() {
        return latest % width;
    }

    public int pendingSum() {
        int sum = 0;
        for (int t = latest - pending() + 1; t <= latest; t++) {
            if (moments[t] != UNKNOWN) {
                sum += moments[t];
            }
        }
        return sum;
    }

    private static int clamped(int value, int most) {
        if (value < 1) {
            return 1;
        }
        return value > most ? most : value;
    }

    private static boolean isArchive(int a) {
        return a >= 0 && a < ARCHIVES;
    }

    private boolean isInRange(int v) {
        if (counter) {
            return v >= 0 && v < WHEEL_STATES;
        }
        return v >= -GAUGE_LIMIT && v <= GAUGE_LIMIT;
    }

    private void fillUpTo(int t, int value) {
        for (int i = latest + 1; i <= t; i++) {
            moments[i] = value;
        }
    }

    private void spreadUpTo(int t, int v) {
        int turned = (v - wheel + WHEEL_STATES) % WHEEL_STATES;
        int length = t - latest;
        for (int j = 1; j <= length; j++) {
            moments[latest + j] = turned * j / length - turned * (j - 1) / length;
        }
    }

    private int stepValue(int k) {
        int first = k * width + 1;
        int sum = 0;
        int unknown = 0;
        for (int i = 0; i < width; i++) {
            int value = moments[first + i];
            if (value == UNKNOWN) {
                unknown++;
            } else {
                sum += value;
            }
        }
        // At most half unknown leaves at least one known moment to divide by.
        return 2 * unknown > width ? UNKNOWN : roundedDown(sum, width - unknown);
    }

    private int completeRows(int a) {
        return steps() / span[a];
    }

    private int firstKeptRow(int a) {
        int first = completeRows(a) - room[a];
        return first < 0 ? 0 : first;
    }

    private int rowValue(int a, int r) {
        int first = r * span[a];
        int joint = 0;
        int count = 0;
        for (int i = 0; i < span[a]; i++) {
            int value = stepValue(first + i);
            if (value != UNKNOWN) {
                joint = count == 0 ? value : joined(rule[a], joint, value);
                count++;
            }
        }
        if (count == 0 || span[a] - count > tolerance[a]) {
            return UNKNOWN;
        }
        return rule[a] == MEAN ? roundedDown(joint, count) : joint;
    }

    private static int joined(int byRule, int before, int value) {
        if (byRule == LOW) {
            return value < before ? value : before;
        }
        if (byRule == HIGH) {
            return value > before ? value : before;
        }
        return byRule == LAST ? value : before + value;
    }

    /** Java's own quotient goes towards zero, the document's towards minus infinity. */
    private static int roundedDown(int sum, int count) {
        int quotient = sum / count;
        return quotient * count > sum ? quotient - 1 : quotient;
    }
}
