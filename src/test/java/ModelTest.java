import java.util.ArrayList;
import java.util.List;

/**
 * Runs of many calls on many objects, each answer compared with that of a second program that is
 * written in another way: it goes on with every moment, by lists, and works nothing out again.
 */
public final class ModelTest {
    private static final int OBJECTS = 4000;
    /** What an object answers after so many calls is free. */
    private static final int CALLS = 512;
    private static final Due due = new Due();
    private static long seed = 20261115L;

    /** The same numbers in every run. */
    private static int number(int least, int most) {
        seed = seed * 6364136223846793005L + 1442695040888963407L;
        return least + (int) ((seed >>> 33) % (most - least + 1));
    }

    public static void main(String[] args) {
        for (int i = 0; i < OBJECTS; i++) {
            int kind = number(-1, 2);
            int width = number(-1, 8);
            int heartbeat = number(0, 1) == 0 ? number(-1, 6) : number(0, 33);
            run("object " + i + " (" + kind + ", " + width + ", " + heartbeat + ") ",
                new RoundArchive(kind, width, heartbeat), new Model(kind, width, heartbeat));
        }
        due.end();
    }

    private static void run(String name, RoundArchive x, Model m) {
        int longestGap = number(1, 12);
        int shapes = number(0, 4);
        for (int call = 0; call < CALLS; call++) {
            if (call < shapes || number(0, 99) == 0) {
                int a = number(0, 9) == 0 ? number(-1, 2) : number(0, 1);
                int packed = number(0, 4) == 0 ? number(-600, 5000)
                    : Due.packed(number(1, 4), number(0, 3), number(0, 3), number(1, 8));
                due.is(name + "shape(" + a + ", " + packed + ")", x.shape(a, packed), m.shape(a, packed));
            } else if (number(0, 3) == 0) {
                int t = m.time() + (number(0, 9) == 0 ? number(-3, 40) : number(1, longestGap));
                int v = number(0, 9) == 0 ? number(-1100, 1100) : m.counter ? number(0, 255) : number(-20, 20);
                due.is(name + "update(" + t + ", " + v + ")", x.update(t, v), m.update(t, v));
            } else {
                ask(name + "call " + call + ": ", x, m);
            }
        }
    }

    private static void ask(String name, RoundArchive x, Model m) {
        int a = number(0, 9) == 0 ? number(-1, 2) : number(0, 1);
        switch (number(0, 11)) {
            case 0 -> due.is(name + "lastTime()", x.lastTime(), m.time());
            case 1, 2 -> {
                int t = m.time() - number(-2, 33);
                due.is(name + "moment(" + t + ")", x.moment(t), m.moment(t));
            }
            case 3 -> due.is(name + "steps()", x.steps(), m.steps.size());
            case 4 -> due.is(name + "lastStep()", x.lastStep(), m.lastStep());
            case 5 -> due.is(name + "rows(" + a + ")", x.rows(a), m.isArchive(a) ? m.archives[a].gone + m.archives[a].kept.size() : 0);
            case 6, 7 -> {
                int r = (m.isArchive(a) ? m.archives[a].gone : 0) + number(-2, 9);
                due.is(name + "row(" + a + ", " + r + ")", x.row(a, r), m.row(a, r));
            }
            case 8 -> due.is(name + "peak(" + a + ")", x.peak(a), m.peak(a));
            case 9 -> due.is(name + "known(" + a + ")", x.known(a), m.known(a));
            case 10 -> due.is(name + "pending()", x.pending(), m.step.size());
            default -> due.is(name + "pendingSum()", x.pendingSum(), Model.sum(Model.knownOf(m.step)));
        }
    }

    /** In its lists null is what is unknown. */
    private static final class Model {
        final boolean counter;
        final int width;
        final int heartbeat;
        final Archive[] archives = {new Archive(), new Archive()};
        final List<Integer> moments = new ArrayList<>();
        final List<Integer> steps = new ArrayList<>();
        final List<Integer> step = new ArrayList<>();
        int told = 0;

        Model(int kind, int width, int heartbeat) {
            this.counter = kind > 0;
            this.width = Math.max(1, Math.min(6, width));
            this.heartbeat = Math.max(1, Math.min(30, heartbeat));
        }

        int time() {
            return moments.size();
        }

        boolean isArchive(int a) {
            return a == 0 || a == 1;
        }

        boolean shape(int a, int packed) {
            int room = Math.floorDiv(packed, 512);
            int tolerance = Math.floorMod(packed, 512) / 64;
            int rule = Math.floorMod(packed, 64) / 8;
            int span = Math.floorMod(packed, 8);
            if (!isArchive(a) || time() > 0 || room < 1 || room > 8 || tolerance > 3 || rule > 3 || span < 1 || span > 4) {
                return false;
            }
            archives[a].span = span;
            archives[a].rule = rule;
            archives[a].tolerance = tolerance;
            archives[a].room = room;
            return true;
        }

        boolean update(int t, int v) {
            if (t < 1 || t > 240 || t <= time() || v < (counter ? 0 : -1000) || v > (counter ? 255 : 1000)) {
                return false;
            }
            int length = t - time();
            int turned = Math.floorMod(v - told, 256);
            int given = 0;
            for (int j = 1; j <= length; j++) {
                int upToHere = turned * j / length;
                add(length > heartbeat ? null : Integer.valueOf(counter ? upToHere - given : v));
                given = upToHere;
            }
            told = v;
            return true;
        }

        private void add(Integer value) {
            moments.add(value);
            step.add(value);
            if (step.size() == width) {
                List<Integer> known = knownOf(step);
                Integer whole = 2 * (width - known.size()) <= width ? mean(known) : null;
                step.clear();
                steps.add(whole);
                archives[0].add(whole);
                archives[1].add(whole);
            }
        }

        int moment(int t) {
            return t < 1 || t > time() || t < time() - 30 ? RoundArchive.NONE : orUnknown(moments.get(t - 1));
        }

        int lastStep() {
            return steps.isEmpty() ? RoundArchive.NONE : orUnknown(steps.get(steps.size() - 1));
        }

        int row(int a, int r) {
            if (!isArchive(a)) {
                return RoundArchive.NONE;
            }
            int place = r - archives[a].gone;
            return place < 0 || place >= archives[a].kept.size() ? RoundArchive.NONE : orUnknown(archives[a].kept.get(place));
        }

        int peak(int a) {
            return !isArchive(a) ? RoundArchive.NONE
                : knownOf(archives[a].kept).stream().mapToInt(value -> value).max().orElse(RoundArchive.UNKNOWN);
        }

        int known(int a) {
            return isArchive(a) ? knownOf(archives[a].kept).size() : 0;
        }

        static List<Integer> knownOf(List<Integer> values) {
            return values.stream().filter(value -> value != null).toList();
        }

        static int sum(List<Integer> values) {
            return values.stream().mapToInt(value -> value).sum();
        }

        static int mean(List<Integer> values) {
            return Math.floorDiv(sum(values), values.size());
        }

        static int orUnknown(Integer value) {
            return value == null ? RoundArchive.UNKNOWN : value;
        }
    }

    private static final class Archive {
        int span = 1;
        int rule = 0;
        int tolerance = 0;
        int room = 4;
        int gone = 0;
        final List<Integer> kept = new ArrayList<>();
        private final List<Integer> row = new ArrayList<>();

        void add(Integer step) {
            row.add(step);
            if (row.size() < span) {
                return;
            }
            List<Integer> known = Model.knownOf(row);
            kept.add(known.isEmpty() || span - known.size() > tolerance ? null : byRule(known));
            row.clear();
            if (kept.size() > room) {
                kept.remove(0);
                gone++;
            }
        }

        private Integer byRule(List<Integer> known) {
            return switch (rule) {
                case 0 -> Model.mean(known);
                case 1 -> known.stream().min(Integer::compare).get();
                case 2 -> known.stream().max(Integer::compare).get();
                default -> known.get(known.size() - 1);
            };
        }
    }
}
