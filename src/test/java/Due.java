import java.util.ArrayList;
import java.util.List;

/** What the tests share: it prints every answer that is not the one that is due, and counts them. */
final class Due {
    /** Arguments far outside of every range: sums and differences of them wrap around. */
    static final int[] FAR = {Integer.MIN_VALUE, Integer.MIN_VALUE + 1, Integer.MAX_VALUE - 1, Integer.MAX_VALUE};

    /** Numbers that name no archive. */
    static final int[] NO_ARCHIVE = {-1, 2, 3, Integer.MIN_VALUE, Integer.MAX_VALUE};

    private int looked = 0;
    private int wrong = 0;

    void is(String what, Object got, Object want) {
        looked++;
        if (!got.equals(want)) {
            wrong++;
            System.out.println(what + " answered " + got + ", due is " + want);
        }
    }

    void end() {
        System.out.println(looked + " answers, " + wrong + " of them not as due");
        if (wrong != 0 || looked == 0) {
            System.exit(1);
        }
    }

    static int packed(int span, int rule, int tolerance, int room) {
        return span + 8 * rule + 64 * tolerance + 512 * room;
    }

    /** Every answer that can tell something now: some 70 calls, so that an object bears a few of them in its 512. */
    static List<Integer> answers(RoundArchive x) {
        List<Integer> all = new ArrayList<>(List.of(x.lastTime(), x.steps(), x.lastStep(), x.pending(), x.pendingSum()));
        for (int t = all.get(0) - 31; t <= all.get(0) + 1; t++) {
            all.add(x.moment(t));
        }
        for (int a = 0; a < 2; a++) {
            int rows = x.rows(a);
            all.addAll(List.of(rows, x.peak(a), x.known(a)));
            for (int r = rows - 9; r <= rows; r++) {
                all.add(x.row(a, r));
            }
        }
        return all;
    }
}
