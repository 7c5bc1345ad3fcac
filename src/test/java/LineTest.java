import java.util.TreeSet;

/**
 * Every list of up to three constraints on one variable with numbers from 0 to 2, so that each two relations
 * meet just before, at and just behind one number. What is due is found by trying points: where the numbers
 * are integers, a quarter stands for every number between two integers.
 */
public final class LineTest {
    private static final int NONE = BoundProofs.NONE;
    private static final int STATE = BoundProofs.STATE;
    /** All points are counted in quarters. */
    private static final int ONE = 4;
    private static final int END = 6 * ONE;
    private static final Checks C = new Checks();

    private final int[] sorts;
    private final int[] numbers;
    private final BoundProofs x = Checks.of("n1;fa;");

    private LineTest(int[] sorts, int[] numbers) {
        this.sorts = sorts;
        this.numbers = numbers;
        StringBuilder about = new StringBuilder("on a line:");
        for (int k = 0; k < sorts.length; k++) {
            x.asserts(0, sorts[k], numbers[k]);
            about.append(" (relation ").append(sorts[k]).append(" to ").append(numbers[k]).append(")");
        }
        C.about(about.toString());
    }

    /** Whether a point, in quarters, is in a relation to a number that is increased or decreased by slack quarters. */
    private static boolean holds(int sort, int number, int slack, int point) {
        int from = point - number * ONE;
        return switch (sort) {
            case 0 -> from <= slack;
            case 1 -> from < slack;
            case 2 -> from >= -slack;
            case 3 -> from > -slack;
            default -> from >= -slack && from <= slack;
        };
    }

    private boolean holdsIn(int set, int point) {
        for (int k = 0; k < sorts.length; k++) {
            if ((set >> k & 1) != 0 && !holds(sorts[k], numbers[k], 0, point)) {
                return false;
            }
        }
        return true;
    }

    private boolean satisfiable(int set) {
        for (int point = -END; point <= END; point++) {
            if (holdsIn(set, point)) {
                return true;
            }
        }
        return false;
    }

    private boolean follows(int set, int sort, int number) {
        for (int point = -END; point <= END; point++) {
            if (holdsIn(set, point) && !holds(sort, number, 0, point)) {
                return false;
            }
        }
        return true;
    }

    private int all() {
        return (1 << sorts.length) - 1;
    }

    private int core() {
        int left = all();
        for (int k = sorts.length - 1; k >= 0; k--) {
            left = satisfiable(left & ~(1 << k)) ? left : left & ~(1 << k);
        }
        return left;
    }

    private void sets() {
        boolean met = satisfiable(all());
        int core = met ? 0 : core();
        C.due("met()", x.met(), met ? 1 : 0);
        C.due("core()", x.core(), core);
        int fewest = all();
        for (int set = all(); set >= 0; set--) {
            if (satisfiable(all() & ~set) && Integer.bitCount(set) <= Integer.bitCount(fewest)) {
                fewest = set;
            }
        }
        C.due("spared(0)", x.spared(0), Integer.bitCount(fewest));
        C.due("spared(1)", x.spared(1), fewest);
        for (int k = 0; k < sorts.length; k++) {
            long before = x.told();
            C.due("proof(" + k + ")", x.proof(k), met ? STATE : core >> k & 1);
            C.due("told()", x.told(), met ? before : multiplier(core, k));
        }
    }

    /** Two constraints contradict each other on a line; one of them says "at most", and its multiplier is 1. */
    private int multiplier(int core, int k) {
        if ((core >> k & 1) == 0) {
            return 0;
        }
        if (sorts[k] != 4) {
            return 1;
        }
        int other = Integer.numberOfTrailingZeros(core & ~(1 << k));
        boolean high = numbers[k] > numbers[other] || numbers[k] == numbers[other] && sorts[other] < 2;
        return high ? -1 : 1;
    }

    private void relief(int k) {
        long top = x.upper();
        if (!satisfiable(all() & ~(1 << k))) {
            C.due("relief(" + k + ")", x.relief(k), NONE);
            C.number(x, top, 1);
            return;
        }
        int slack = 0;
        while (!satisfiableWith(k, slack)) {
            slack += 2;
        }
        C.due("relief(" + k + ")", x.relief(k), slack % ONE == 0 ? 1 : 0);
        C.number(x, slack / ONE, 1);
    }

    private boolean satisfiableWith(int k, int slack) {
        for (int point = -END; point <= END; point++) {
            if (holdsIn(all() & ~(1 << k), point) && holds(sorts[k], numbers[k], slack, point)) {
                return true;
            }
        }
        return false;
    }

    private void ranges() {
        for (int what = 0; what <= 1; what++) {
            int turn = what == 0 ? 1 : -1;
            int point = -turn * END;
            while (Math.abs(point) <= END && !holdsIn(all(), point)) {
                point += turn;
            }
            boolean found = Math.abs(point) <= END;
            boolean free = point == -turn * END;
            boolean open = found && Math.floorMod(point, ONE) != 0;
            long top = x.upper();
            C.due("range(0, " + what + ")", x.range(0, what), !found ? STATE : free ? NONE : open ? 0 : 1);
            int end = open ? point - turn : point;
            C.number(x, found && !free ? Math.floorDiv(end, ONE) : top, 1);
        }
    }

    private void entailments() {
        for (int sort = 0; sort <= 4; sort++) {
            for (int number = -1; number <= 3; number++) {
                String call = "(0, " + sort + ", " + number + ")";
                boolean yes = follows(all(), sort, number);
                C.due("follows" + call, x.follows(0, sort, number), yes ? 1 : 0);
                int m = 0;
                while (yes && !follows((1 << m) - 1, sort, number)) {
                    m++;
                }
                C.due("since" + call, x.since(0, sort, number), yes ? m : NONE);
                int left = all();
                for (int k = sorts.length - 1; k >= 0; k--) {
                    left = follows(left & ~(1 << k), sort, number) ? left & ~(1 << k) : left;
                }
                C.due("why" + call, x.why(0, sort, number), yes ? left : NONE);
            }
        }
    }

    private void points() {
        int best = END + 1;
        int small = 0;
        for (int point = -END; point <= END; point += 2) {
            if (holdsIn(all(), point)) {
                boolean simpler = Math.abs(point % ONE) < Math.abs(best % ONE)
                    || Math.abs(point % ONE) == Math.abs(best % ONE) && Math.abs(point) < Math.abs(best);
                best = best > END || simpler ? point : best;
                if (point % ONE == 0 && Math.abs(point) <= 4 * ONE) {
                    C.due("whole(" + small + ", 0)", x.whole(small, 0), 1);
                    C.due("told()", x.told(), point / ONE);
                    small++;
                }
            }
        }
        C.due("count(5)", x.count(5), small);
        C.due("whole(" + small + ", 0)", x.whole(small, 0), NONE);
        C.due("sample(0)", x.sample(0), best > END ? STATE : 1);
        C.due("value(0)", x.value(0), best > END ? STATE : 1);
        if (best <= END) {
            C.number(x, best % ONE == 0 ? best / ONE : best / 2, best % ONE == 0 ? 1 : 2);
        }
    }

    private void corners() {
        TreeSet<Integer> vertices = new TreeSet<>();
        for (int number : numbers) {
            boolean vertex = true;
            for (int k = 0; k < sorts.length; k++) {
                int closed = sorts[k] == 1 ? 0 : sorts[k] == 3 ? 2 : sorts[k];
                vertex &= holds(closed, numbers[k], 0, number * ONE);
            }
            if (vertex) {
                vertices.add(number);
            }
        }
        C.due("count(4)", x.count(4), vertices.size());
        int k = 0;
        for (int vertex : vertices) {
            C.due("corner(" + k + ", 0)", x.corner(k, 0), 1);
            C.number(x, vertex, 1);
            k++;
        }
        C.due("corner(" + k + ", 0)", x.corner(k, 0), NONE);
    }

    private void run() {
        sets();
        ranges();
        for (int k = 0; k < sorts.length; k++) {
            relief(k);
        }
        entailments();
        corners();
        points();
    }

    public static void main(String[] args) {
        int lists = 0;
        for (int size = 0; size <= 3; size++) {
            for (int i = 0; i < Math.pow(15, size); i++) {
                int[] sorts = new int[size];
                int[] numbers = new int[size];
                int rest = i;
                for (int k = 0; k < size; k++) {
                    sorts[k] = rest % 5;
                    numbers[k] = rest / 5 % 3;
                    rest /= 15;
                }
                new LineTest(sorts, numbers).run();
                lists++;
            }
        }
        C.due("lists", lists, 1 + 15 + 225 + 3375);
        C.end();
    }
}
