import java.util.ArrayList;
import java.util.Arrays;
import java.util.List;
import java.util.Random;
import java.util.TreeSet;

/**
 * Answers on random problems against the document's definitions, without a second solver. Each answer of met()
 * comes with what proves it, a point or a certificate, and that is checked by plain arithmetic; the definitions
 * of the other queries are then carried out word by word with nothing but such answers.
 */
public final class DefinitionsTest {
    private static final int NONE = BoundProofs.NONE;
    private static final Checks C = new Checks();

    /** A form's coefficients, a relation and a number. */
    private record Bound(int form, int sort, int number) {
    }

    /** An infimum or supremum; number is null if there is none. */
    private record End(Frac number, boolean reached) {
    }

    private final Random random;
    private final int n;
    private final int[][] forms;
    private final List<Bound> bounds = new ArrayList<>();
    /** For each set of constraints: 0 not known yet, 1 satisfiable, 2 not. */
    private final byte[] known;

    private DefinitionsTest(long seed) {
        random = new Random(seed);
        n = pick(1, 3);
        // The first forms are the variables themselves.
        forms = new int[pick(n, 8)][3];
        for (int f = 0; f < forms.length; f++) {
            while (f >= n && forms[f][0] == 0 && forms[f][1] == 0 && forms[f][2] == 0) {
                for (int v = 0; v < n; v++) {
                    forms[f][v] = pick(-3, 3);
                }
            }
            if (f < n) {
                forms[f][f] = 1;
            }
        }
        int most = pick(0, 2) == 0 ? 50 : pick(1, 6);
        int size = pick(0, 10);
        boolean crowded = random.nextBoolean();
        while (bounds.size() < size) {
            int sort = pick(0, 4);
            // Constraints that keep away from 0 clash; those that let it be do not.
            int number = crowded ? pick(-most, most) : sort == 4 ? 0 : sort < 2 ? pick(0, most) : pick(-most, 0);
            bounds.add(new Bound(pick(0, forms.length - 1), sort, number));
        }
        known = new byte[1 << size];
    }

    private int pick(int least, int most) {
        return least + random.nextInt(most - least + 1);
    }

    private BoundProofs object(List<Bound> of) {
        BoundProofs x = Checks.of("n" + n + ";");
        for (int[] form : forms) {
            x.form(form[0], form[1], form[2]);
        }
        for (Bound bound : of) {
            if (x.asserts(bound.form, bound.sort, bound.number) < 0) {
                throw new IllegalStateException("the test's own constraint is wrong: " + bound);
            }
        }
        return x;
    }

    private List<Bound> chosen(int set) {
        List<Bound> some = new ArrayList<>();
        for (int k = 0; k < bounds.size(); k++) {
            if ((set >> k & 1) != 0) {
                some.add(bounds.get(k));
            }
        }
        return some;
    }

    private Frac valueAt(Frac[] point, int f) {
        Frac sum = Frac.ZERO;
        for (int v = 0; v < n; v++) {
            sum = sum.plus(Frac.of(forms[f][v]).times(point[v]));
        }
        return sum;
    }

    private static boolean inRelation(Frac value, int sort, Frac number) {
        int order = value.compareTo(number);
        return switch (sort) {
            case 0 -> order <= 0;
            case 1 -> order < 0;
            case 2 -> order >= 0;
            case 3 -> order > 0;
            default -> order == 0;
        };
    }

    private boolean satisfies(Frac[] point, Bound bound) {
        return inRelation(valueAt(point, bound.form), bound.sort, Frac.of(bound.number));
    }

    private static Frac latest(BoundProofs x) {
        return Frac.of(java.math.BigInteger.valueOf(x.upper()), java.math.BigInteger.valueOf(x.lower()));
    }

    private Frac[] samplePoint(BoundProofs x) {
        Frac[] point = new Frac[n];
        for (int v = 0; v < n; v++) {
            C.due("sample(" + v + ")", x.sample(v), 1);
            point[v] = latest(x);
        }
        return point;
    }

    private boolean satisfiable(int set) {
        if (known[set] == 0) {
            known[set] = (byte) (satisfiable(chosen(set)) ? 1 : 2);
        }
        return known[set] == 1;
    }

    /** Asks the class, and checks the point or the certificate that it gives. */
    private boolean satisfiable(List<Bound> list) {
        BoundProofs x = object(list);
        if (x.met() == 1) {
            Frac[] point = samplePoint(x);
            for (Bound bound : list) {
                C.due("the sample point satisfies " + bound, satisfies(point, bound) ? 1 : 0, 1);
            }
            return true;
        }
        checkCertificate(x, list);
        return false;
    }

    private void checkCertificate(BoundProofs x, List<Bound> list) {
        long[] sum = new long[4];
        long common = 0;
        boolean strict = false;
        int core = x.core();
        for (int k = 0; k < list.size(); k++) {
            Bound bound = list.get(k);
            int in = core >> k & 1;
            C.due("proof(" + k + ")", x.proof(k), in);
            long times = x.told();
            C.due("a multiplier is 0 outside the core only", times == 0 ? 0 : 1, in);
            C.due("a multiplier is above 0 but for relation 4", times >= 0 || bound.sort == 4 ? 1 : 0, 1);
            strict |= in == 1 && (bound.sort == 1 || bound.sort == 3);
            long turn = bound.sort == 2 || bound.sort == 3 ? -times : times;
            for (int v = 0; v < n; v++) {
                sum[v] += turn * forms[bound.form][v];
            }
            sum[3] += turn * bound.number;
            common = java.math.BigInteger.valueOf(common).gcd(java.math.BigInteger.valueOf(times)).longValue();
        }
        for (int v = 0; v < n; v++) {
            C.due("the certificate's coefficient " + v, sum[v], 0);
        }
        C.due("the certificate's number is below 0, or 0 if strict", sum[3] < 0 || sum[3] == 0 && strict ? 1 : 0, 1);
        C.due("what divides all multipliers", common, 1);
    }

    private int all() {
        return known.length - 1;
    }

    private void coreAndSpared(BoundProofs x) {
        C.due("met()", x.met(), satisfiable(all()) ? 1 : 0);
        int left = all();
        for (int k = bounds.size() - 1; k >= 0; k--) {
            if (!satisfiable(left & ~(1 << k))) {
                left &= ~(1 << k);
            }
        }
        C.due("core()", x.core(), satisfiable(all()) ? 0 : left);
        int fewest = all();
        for (int set = 0; set <= all(); set++) {
            if (Integer.bitCount(set) < Integer.bitCount(fewest) && satisfiable(all() & ~set)) {
                fewest = set;
            }
        }
        C.due("spared(0)", x.spared(0), Integer.bitCount(fewest));
        C.due("spared(1)", x.spared(1), fewest);
    }

    private End end(BoundProofs x, int f, int what) {
        int answer = x.range(f, what);
        return answer == NONE ? new End(null, false) : new End(latest(x), answer == 1);
    }

    /** The constraints with all numbers multiplied, strict ones left or taken as not strict; null if one is too large. */
    private List<Bound> scaled(int times, boolean closed) {
        List<Bound> list = new ArrayList<>();
        for (Bound bound : bounds) {
            if (Math.abs(bound.number * times) > 50) {
                return null;
            }
            int sort = closed && bound.sort < 4 ? bound.sort & 2 : bound.sort;
            list.add(new Bound(bound.form, sort, bound.number * times));
        }
        return list;
    }

    private static List<Bound> with(List<Bound> list, Bound bound) {
        List<Bound> longer = new ArrayList<>(list);
        longer.add(bound);
        return longer;
    }

    /** A direction in which a form grows without end, or numbers at and beyond the end. */
    private void checkEnd(int f, int what, End end) {
        int beyond = what == 0 ? 1 : 3;
        int upTo = what == 0 ? 0 : 2;
        if (bounds.size() == 10) {
            return;
        }
        if (end.number == null) {
            C.due("form " + f + " grows without end", satisfiable(with(scaled(0, true), new Bound(f, beyond, 0))) ? 1 : 0, 1);
            return;
        }
        int times = end.number.bottom().bitLength() < 8 ? end.number.bottom().intValue() : 1000;
        int number = end.number.top().bitLength() < 8 ? end.number.top().intValue() : 1000;
        List<Bound> plain = scaled(times, false);
        if (plain == null || Math.abs(number) > 50) {
            return;
        }
        C.due("form " + f + " goes beyond its end", satisfiable(with(plain, new Bound(f, beyond, number))) ? 1 : 0, 0);
        C.due("form " + f + " has its end", satisfiable(with(plain, new Bound(f, upTo, number))) ? 1 : 0, end.reached ? 1 : 0);
        C.due("form " + f + " comes near its end",
            satisfiable(with(scaled(times, true), new Bound(f, upTo, number))) ? 1 : 0, 1);
    }

    private void ranges(BoundProofs x) {
        for (int f = 0; f < forms.length; f++) {
            for (int what = 0; what < 2; what++) {
                if (satisfiable(all())) {
                    checkEnd(f, what, end(x, f, what));
                } else {
                    C.due("range(" + f + ", " + what + ")", x.range(f, what), BoundProofs.STATE);
                }
            }
        }
    }

    /** How far a number is from the values on one side of it: they begin at the end, whose sign is turned for suprema. */
    private static End distance(End end, Frac number, int turn) {
        if (end.number == null) {
            return new End(Frac.ZERO, true);
        }
        Frac far = turn > 0 ? end.number.minus(number) : number.minus(end.number);
        return far.sign() < 0 ? new End(Frac.ZERO, true) : new End(far, end.reached);
    }

    /** The least relaxation by the ends of the values that the constraint's form has under the other constraints. */
    private void reliefs(BoundProofs x) {
        for (int k = 0; k < bounds.size(); k++) {
            int others = all() & ~(1 << k);
            if (!satisfiable(others)) {
                C.due("relief(" + k + ")", x.relief(k), NONE);
                continue;
            }
            Bound bound = bounds.get(k);
            BoundProofs y = object(chosen(others));
            End up = distance(end(y, bound.form, 0), Frac.of(bound.number), 1);
            End down = distance(end(y, bound.form, 1), Frac.of(bound.number), -1);
            End least = bound.sort < 2 ? up : bound.sort < 4 ? down : up.number.compareTo(down.number) > 0 ? up : down;
            boolean reached = least.reached;
            if (bound.sort == 4 && up.number.compareTo(down.number) == 0) {
                reached = up.reached && down.reached;
            }
            if (bound.sort == 1 || bound.sort == 3) {
                // A strict constraint is satisfiable as it is if values lie beyond its number.
                Bound same = new Bound(bound.form, bound.sort, bound.number);
                reached = least.number.sign() == 0 && satisfiable(with(chosen(others), same));
            }
            C.due("relief(" + k + ")", x.relief(k), reached ? 1 : 0);
            C.due("relief(" + k + ") is " + least.number, latest(x).compareTo(least.number), 0);
        }
    }

    private boolean followsFrom(int set, Bound bound) {
        int[][] denials = {{3}, {2}, {1}, {0}, {1, 3}};
        for (int sort : denials[bound.sort]) {
            if (satisfiable(with(chosen(set), new Bound(bound.form, sort, bound.number)))) {
                return false;
            }
        }
        return true;
    }

    private void entailment(BoundProofs x, Bound bound) {
        int f = bound.form;
        int sort = bound.sort;
        int number = bound.number;
        boolean follows = followsFrom(all(), bound);
        C.due("follows" + bound, x.follows(f, sort, number), follows ? 1 : 0);
        int since = NONE;
        int left = all();
        for (int m = bounds.size(); m >= 0 && follows; m--) {
            since = followsFrom((1 << m) - 1, bound) ? m : since;
        }
        for (int k = bounds.size() - 1; k >= 0 && follows; k--) {
            left = followsFrom(left & ~(1 << k), bound) ? left & ~(1 << k) : left;
        }
        C.due("since" + bound, x.since(f, sort, number), since);
        C.due("why" + bound, x.why(f, sort, number), follows ? left : NONE);
    }

    /** Random constraints, and those at the ends of a form, where following is a near thing. */
    private void entailments(BoundProofs x) {
        if (bounds.size() == 10) {
            return;
        }
        for (int i = 0; i < 3; i++) {
            entailment(x, new Bound(pick(0, forms.length - 1), pick(0, 4), pick(-50, 50)));
        }
        int f = pick(0, forms.length - 1);
        for (int what = 0; what < 2 && satisfiable(all()); what++) {
            End end = end(x, f, what);
            if (end.number != null && end.number.bottom().equals(java.math.BigInteger.ONE) && end.number.top().bitLength() < 6) {
                for (int sort = 0; sort < 5; sort++) {
                    entailment(x, new Bound(f, sort, end.number.top().intValue()));
                }
            }
        }
    }

    private static boolean within(Frac number, End least, End most) {
        int below = least.number == null ? 1 : number.compareTo(least.number);
        int above = most.number == null ? -1 : number.compareTo(most.number);
        return (below > 0 || below == 0 && least.reached) && (above < 0 || above == 0 && most.reached);
    }

    /** Tries the denominators from 1, with each of them the numerators from 0; null if that takes too long. */
    private static Frac simplest(End least, End most) {
        for (long bottom = 1; bottom < 200; bottom++) {
            for (long top = 0; top < 400 * bottom; top++) {
                Frac number = Frac.of(top).over(Frac.of(bottom));
                if (within(number, least, most)) {
                    return number;
                }
                if (within(number.negate(), least, most)) {
                    return number.negate();
                }
            }
        }
        return null;
    }

    /** The ends of c, if the other variables have their numbers already. */
    private End[] endsOfLast(Frac[] point) {
        End[] ends = {new End(null, false), new End(null, false)};
        for (Bound bound : bounds) {
            int factor = forms[bound.form][n - 1];
            if (factor == 0) {
                continue;
            }
            Frac rest = Frac.of(bound.number);
            for (int v = 0; v < n - 1; v++) {
                rest = rest.minus(Frac.of(forms[bound.form][v]).times(point[v]));
            }
            Frac number = rest.over(Frac.of(factor));
            boolean reached = bound.sort != 1 && bound.sort != 3;
            for (int what = 0; what < 2; what++) {
                boolean limits = bound.sort == 4 || bound.sort < 2 == (what == 1) == factor > 0;
                int order = ends[what].number == null ? 1 : number.compareTo(ends[what].number) * (what == 0 ? 1 : -1);
                if (limits && order > 0) {
                    ends[what] = new End(number, reached);
                } else if (limits && order == 0) {
                    ends[what] = new End(number, reached && ends[what].reached);
                }
            }
        }
        return ends;
    }

    /** The ends of b when a has its number; null if the numbers are too large for the class to be asked. */
    private End[] endsOfMiddle(Frac a) {
        int times = a.bottom().bitLength() < 8 ? a.bottom().intValue() : 1000;
        List<Bound> list = scaled(times, false);
        if (list == null || list.size() == 10 || a.top().bitLength() > 5) {
            return null;
        }
        BoundProofs y = object(with(list, new Bound(0, 4, a.top().intValue())));
        End[] ends = {end(y, 1, 0), end(y, 1, 1)};
        for (int what = 0; what < 2; what++) {
            if (ends[what].number != null) {
                ends[what] = new End(ends[what].number.over(Frac.of(times)), ends[what].reached);
            }
        }
        return ends;
    }

    private void samples(BoundProofs x) {
        if (!satisfiable(all())) {
            C.due("sample(0)", x.sample(0), BoundProofs.STATE);
            C.due("value(0)", x.value(0), BoundProofs.STATE);
            return;
        }
        Frac[] point = samplePoint(x);
        for (int v = 0; v < n; v++) {
            End[] ends = {end(x, v, 0), end(x, v, 1)};
            if (v > 0) {
                ends = v == n - 1 ? endsOfLast(point) : endsOfMiddle(point[0]);
            }
            Frac due = ends == null ? null : simplest(ends[0], ends[1]);
            if (due != null) {
                C.due("the sample's variable " + v + " is " + due, point[v].compareTo(due), 0);
            }
        }
        for (int f = 0; f < forms.length; f++) {
            C.due("value(" + f + ")", x.value(f), 1);
            C.due("value(" + f + ") at the sample point", latest(x).compareTo(valueAt(point, f)), 0);
        }
    }

    /** Turns equations into those of a single point; null if they have none or several. */
    private Frac[] onlyPoint(List<Bound> equations) {
        List<Frac[]> left = new ArrayList<>();
        for (Bound bound : equations) {
            Frac[] row = new Frac[n + 1];
            for (int v = 0; v < n; v++) {
                row[v] = Frac.of(forms[bound.form][v]);
            }
            row[n] = Frac.of(bound.number);
            left.add(row);
        }
        Frac[][] solved = new Frac[n][];
        for (int v = 0; v < n; v++) {
            int column = v;
            Frac[] pivot = left.stream().filter(row -> row[column].sign() != 0).findFirst().orElse(null);
            if (pivot == null) {
                return null;
            }
            left.remove(pivot);
            for (int i = 0; i < left.size(); i++) {
                left.set(i, without(left.get(i), pivot, v));
            }
            for (int i = 0; i < v; i++) {
                solved[i] = without(solved[i], pivot, v);
            }
            solved[v] = pivot;
        }
        Frac[] point = new Frac[n];
        for (int v = 0; v < n; v++) {
            point[v] = solved[v][n].over(solved[v][v]);
        }
        return point;
    }

    private static Frac[] without(Frac[] row, Frac[] pivot, int v) {
        Frac times = row[v].over(pivot[v]);
        Frac[] next = new Frac[row.length];
        for (int i = 0; i < row.length; i++) {
            next[i] = row[i].minus(times.times(pivot[i]));
        }
        return next;
    }

    /** All points where as many constraints as there are variables hold with equality, if there is one such point only. */
    private void vertices(BoundProofs x) {
        List<Bound> closed = scaled(1, true);
        TreeSet<Frac[]> due = new TreeSet<>(Arrays::compare);
        for (int set = 0; set <= all(); set++) {
            Frac[] point = Integer.bitCount(set) == n ? onlyPoint(chosen(set)) : null;
            if (point != null && closed.stream().allMatch(bound -> satisfies(point, bound))) {
                due.add(point);
            }
        }
        C.due("count(4)", x.count(4), due.size());
        int k = 0;
        for (Frac[] point : due) {
            for (int v = 0; v < n; v++) {
                C.due("corner(" + k + ", " + v + ")", x.corner(k, v), 1);
                C.due("vertex " + k + " has " + point[v], latest(x).compareTo(point[v]), 0);
            }
            k++;
        }
        C.due("corner(" + k + ", 0)", x.corner(k, 0), NONE);
    }

    private void integers(BoundProofs x) {
        int k = 0;
        for (int code = 0; code < Math.pow(9, n); code++) {
            int[] numbers = {code / (n == 1 ? 1 : n == 2 ? 9 : 81) % 9 - 4, code / (n == 2 ? 1 : 9) % 9 - 4, code % 9 - 4};
            Frac[] point = {Frac.of(numbers[0]), Frac.of(numbers[1]), Frac.of(numbers[2])};
            if (!bounds.stream().allMatch(bound -> satisfies(point, bound))) {
                continue;
            }
            // Each call looks at all points, so only some of many solutions are asked for.
            if (k < 30 || random.nextInt(20) == 0) {
                for (int v = 0; v < n; v++) {
                    C.due("whole(" + k + ", " + v + ")", x.whole(k, v), 1);
                    C.due("variable " + v + " of solution " + k, x.told(), numbers[v]);
                }
            }
            k++;
        }
        C.due("count(5)", x.count(5), k);
        C.due("whole(" + k + ", 0)", x.whole(k, 0), NONE);
    }

    private void check() {
        C.text("n " + n + ", forms " + Arrays.deepToString(forms) + ", constraints " + bounds);
        BoundProofs x = object(bounds);
        coreAndSpared(x);
        ranges(x);
        reliefs(x);
        entailments(x);
        samples(x);
        vertices(x);
        integers(x);
    }

    public static void main(String[] args) {
        int problems = args.length > 0 ? Integer.parseInt(args[0]) : 300;
        long start = args.length > 1 ? Long.parseLong(args[1]) : 1;
        for (long seed = start; seed < start + problems; seed++) {
            C.about("problem " + seed);
            new DefinitionsTest(seed).check();
        }
        C.end();
    }
}
