import java.math.BigInteger;
import java.util.ArrayList;
import java.util.HashMap;
import java.util.List;
import java.util.Map;
import java.util.TreeSet;

/** The document's class once more, slow and by other ways, for comparison. */
final class Oracle {
    static final int BAD = -1, STATE = -2, FULL = -3, NONE = -9;

    record Bound(int form, int sort, int number) { }

    private static final class State {
        int n = 2;
        List<int[]> forms = new ArrayList<>();
        List<Bound> bounds = new ArrayList<>();
        List<Integer> levels = new ArrayList<>();

        State copy() {
            State s = new State();
            s.n = n;
            s.forms.addAll(forms);
            s.bounds.addAll(bounds);
            s.levels.addAll(levels);
            return s;
        }
    }

    private State now = new State();
    private final State[] saved = new State[2];
    private final StringBuilder text = new StringBuilder();
    private Frac latest = Frac.ZERO;
    private long told = 0;
    private final Map<Integer, Boolean> satisfiable = new HashMap<>();

    int type(int letter) {
        if (letter < 0 || letter > 255) {
            return BAD;
        }
        if (text.length() == 90) {
            return FULL;
        }
        text.append((char) letter);
        return text.length();
    }

    int clear() {
        int had = text.length();
        text.setLength(0);
        return had;
    }

    // The text is read by an automaton over the places in an item.
    int tells() {
        State s = new State();
        String t = text.toString();
        String place = "start";
        int items = 0;
        int sign = 1;
        int times = 1;
        int[] sum = new int[3];
        int form = 0;
        int sort = 0;
        int i = 0;
        while (i < t.length()) {
            char ch = t.charAt(i);
            if (ch == ' ') {
                i++;
                continue;
            }
            int j = i + 1;
            while (Character.isDigit(ch) && ch < 128 && j < t.length() && t.charAt(j) >= '0' && t.charAt(j) <= '9') {
                j++;
            }
            String token = t.substring(i, j);
            boolean digits = token.matches("0|[1-9][0-9]*");
            int number = digits && token.length() < 5 ? Integer.parseInt(token) : 99999;
            int variable = "abc".indexOf(token);
            String next = null;
            switch (place) {
                case "start":
                    if (token.equals("n") && items == 0) {
                        next = "n";
                    } else if (token.equals("f") && s.forms.size() < 8) {
                        next = "first";
                        sum = new int[3];
                        sign = 1;
                        times = 1;
                    } else if (token.equals("b") && s.bounds.size() < 10) {
                        next = "form";
                    }
                    break;
                case "n":
                    if (digits && number >= 1 && number <= 3) {
                        s.n = number;
                        next = "end";
                    }
                    break;
                case "first":
                case "signed":
                case "timed":
                    if (place.equals("first") && (token.equals("+") || token.equals("-"))) {
                        sign = token.equals("-") ? -1 : 1;
                        next = "signed";
                    } else if (!place.equals("timed") && digits && number >= 1 && number <= 3) {
                        times = number;
                        next = "timed";
                    } else if (variable >= 0 && variable < s.n) {
                        sum[variable] += sign * times;
                        next = "term";
                    }
                    break;
                case "term":
                    if (token.equals("+") || token.equals("-")) {
                        sign = token.equals("-") ? -1 : 1;
                        times = 1;
                        next = "signed";
                    } else if (token.equals(";")) {
                        boolean zero = true;
                        boolean small = true;
                        for (int c : sum) {
                            zero &= c == 0;
                            small &= Math.abs(c) <= 3;
                        }
                        if (!zero && small) {
                            s.forms.add(sum);
                            next = "start";
                        }
                    }
                    break;
                case "form":
                    if (digits && number < s.forms.size()) {
                        form = number;
                        next = "sort";
                    }
                    break;
                case "sort":
                    if (digits && number <= 4) {
                        sort = number;
                        sign = 1;
                        next = "number";
                    }
                    break;
                case "number":
                case "minus":
                    if (token.equals("-") && place.equals("number")) {
                        sign = -1;
                        next = "minus";
                    } else if (digits && number <= 50) {
                        s.bounds.add(new Bound(form, sort, sign * number));
                        next = "end";
                    }
                    break;
                default:
                    next = token.equals(";") ? "start" : null;
                    break;
            }
            if (next == null) {
                return -10 - i;
            }
            place = next;
            if (place.equals("start")) {
                items++;
            }
            i = j;
        }
        if (!place.equals("start")) {
            return -10 - t.length();
        }
        now = s;
        text.setLength(0);
        saved[0] = null;
        saved[1] = null;
        satisfiable.clear();
        return items;
    }

    int form(int a, int b, int c) {
        int[] all = {a, b, c};
        boolean zero = true;
        for (int v = 0; v < 3; v++) {
            if (Math.abs((long) all[v]) > 3 || v >= now.n && all[v] != 0) {
                return BAD;
            }
            zero &= all[v] == 0;
        }
        if (zero) {
            return BAD;
        }
        if (now.forms.size() == 8) {
            return FULL;
        }
        now.forms.add(all);
        return now.forms.size() - 1;
    }

    int coefficient(int f, int v) {
        return noForm(f) || noVariable(v) ? BAD : now.forms.get(f)[v] + 10;
    }

    int asserts(int f, int sort, int number) {
        if (noBound(f, sort, number)) {
            return BAD;
        }
        if (now.bounds.size() == 10) {
            return FULL;
        }
        now.bounds.add(new Bound(f, sort, number));
        satisfiable.clear();
        return now.bounds.size() - 1;
    }

    int bound(int k, int what) {
        if (noConstraint(k) || what < 0 || what > 2) {
            return BAD;
        }
        Bound b = now.bounds.get(k);
        return what == 0 ? b.form : what == 1 ? b.sort : b.number + 100;
    }

    int level() {
        if (now.levels.size() == 4) {
            return FULL;
        }
        now.levels.add(now.bounds.size());
        return now.levels.size();
    }

    int withdraws(int n) {
        if (n < 1 || n > now.levels.size()) {
            return BAD;
        }
        int left = 0;
        for (int i = 0; i < n; i++) {
            left = now.levels.remove(now.levels.size() - 1);
        }
        while (now.bounds.size() > left) {
            now.bounds.remove(now.bounds.size() - 1);
        }
        satisfiable.clear();
        return left;
    }

    int met() {
        return satisfies(all()) ? 1 : 0;
    }

    int core() {
        if (satisfies(all())) {
            return 0;
        }
        int left = all();
        for (int k = now.bounds.size() - 1; k >= 0; k--) {
            if (!satisfies(left & ~(1 << k))) {
                left &= ~(1 << k);
            }
        }
        return left;
    }

    /** The multiplier is found by eliminating: the other members' multipliers follow from one that is set to 1. */
    int proof(int k) {
        if (noConstraint(k)) {
            return BAD;
        }
        if (satisfies(all())) {
            return STATE;
        }
        int core = core();
        told = 0;
        if ((core >> k & 1) == 0) {
            return 0;
        }
        List<Integer> members = new ArrayList<>();
        for (int i = 0; i < now.bounds.size(); i++) {
            if ((core >> i & 1) != 0) {
                members.add(i);
            }
        }
        int size = members.size();
        List<Elimination.Line> equations = new ArrayList<>();
        for (int v = 0; v < now.n; v++) {
            List<Frac> row = new ArrayList<>();
            for (int m : members) {
                row.add(Elimination.line(vector(now.bounds.get(m).form), now.bounds.get(m).sort, Frac.ZERO).form().get(v));
            }
            equations.add(new Elimination.Line(row, Frac.ZERO, 2));
        }
        List<Frac> one = new ArrayList<>();
        for (int i = 0; i < size; i++) {
            one.add(i == 0 ? Frac.ONE : Frac.ZERO);
        }
        equations.add(new Elimination.Line(one, Frac.ONE, 2));
        List<Frac> lambda = new ArrayList<>();
        Frac sum = Frac.ZERO;
        boolean turn = false;
        BigInteger bottom = BigInteger.ONE;
        for (int i = 0; i < size; i++) {
            Frac x = Elimination.project(equations, i, size).low();
            lambda.add(x);
            Bound b = now.bounds.get(members.get(i));
            sum = sum.plus(Elimination.line(List.of(), b.sort, Frac.of(b.number)).number().times(x));
            turn |= b.sort != 4 && x.sign() < 0;
            bottom = bottom.multiply(x.bottom());
        }
        boolean allEqual = true;
        for (int m : members) {
            allEqual &= now.bounds.get(m).sort == 4;
        }
        turn |= allEqual && sum.sign() > 0;
        BigInteger common = BigInteger.ZERO;
        for (Frac x : lambda) {
            common = common.gcd(x.times(new Frac(bottom, BigInteger.ONE)).top());
        }
        Frac mine = lambda.get(members.indexOf(k)).times(Frac.of(bottom, common));
        told = (turn ? mine.negate() : mine).top().longValueExact();
        return 1;
    }

    int relief(int k) {
        if (noConstraint(k)) {
            return BAD;
        }
        if (!satisfies(all() & ~(1 << k))) {
            return NONE;
        }
        List<Elimination.Line> lines = new ArrayList<>();
        for (Elimination.Line l : lines(all() & ~(1 << k))) {
            lines.add(widened(l, Frac.ZERO));
        }
        Bound b = now.bounds.get(k);
        if (b.sort == 4) {
            lines.add(widened(Elimination.line(vector(b.form), 0, Frac.of(b.number)), Frac.of(-1)));
            lines.add(widened(Elimination.line(vector(b.form), 2, Frac.of(b.number)), Frac.of(-1)));
        } else {
            lines.add(widened(Elimination.line(vector(b.form), b.sort, Frac.of(b.number)), Frac.of(-1)));
        }
        lines.add(widened(Elimination.line(List.of(Frac.ZERO, Frac.ZERO, Frac.ZERO), 0, Frac.ZERO), Frac.of(-1)));
        Elimination.Interval s = Elimination.project(lines, 3, 4);
        latest = s.low();
        return s.lowOpen() ? 0 : 1;
    }

    int spared(int what) {
        if (what < 0 || what > 1) {
            return BAD;
        }
        for (int size = 0; size <= now.bounds.size(); size++) {
            for (int set = 0; set <= all(); set++) {
                if (Integer.bitCount(set) == size && satisfies(all() & ~set)) {
                    return what == 0 ? size : set;
                }
            }
        }
        throw new IllegalStateException();
    }

    int range(int f, int what) {
        if (noForm(f) || what < 0 || what > 1) {
            return BAD;
        }
        if (!satisfies(all())) {
            return STATE;
        }
        List<Elimination.Line> lines = new ArrayList<>();
        for (Elimination.Line l : lines(all())) {
            lines.add(widened(l, Frac.ZERO));
        }
        lines.add(widened(Elimination.line(vector(f), 4, Frac.ZERO), Frac.of(-1)));
        Elimination.Interval t = Elimination.project(lines, 3, 4);
        Frac end = what == 0 ? t.low() : t.high();
        if (end == null) {
            return NONE;
        }
        latest = end;
        return (what == 0 ? t.lowOpen() : t.highOpen()) ? 0 : 1;
    }

    int follows(int f, int sort, int number) {
        if (noBound(f, sort, number)) {
            return BAD;
        }
        return entails(all(), f, sort, number) ? 1 : 0;
    }

    int since(int f, int sort, int number) {
        if (noBound(f, sort, number)) {
            return BAD;
        }
        for (int m = 0; m <= now.bounds.size(); m++) {
            if (entails((1 << m) - 1, f, sort, number)) {
                return m;
            }
        }
        return NONE;
    }

    int why(int f, int sort, int number) {
        if (noBound(f, sort, number)) {
            return BAD;
        }
        if (!entails(all(), f, sort, number)) {
            return NONE;
        }
        int left = all();
        for (int k = now.bounds.size() - 1; k >= 0; k--) {
            if (entails(left & ~(1 << k), f, sort, number)) {
                left &= ~(1 << k);
            }
        }
        return left;
    }

    int sample(int v) {
        if (noVariable(v)) {
            return BAD;
        }
        if (!satisfies(all())) {
            return STATE;
        }
        latest = samplePoint().get(v);
        return 1;
    }

    int value(int f) {
        if (noForm(f)) {
            return BAD;
        }
        if (!satisfies(all())) {
            return STATE;
        }
        latest = dot(vector(f), samplePoint());
        return 1;
    }

    int corner(int k, int v) {
        if (k < 0 || noVariable(v)) {
            return BAD;
        }
        List<List<Frac>> found = corners();
        if (k >= found.size()) {
            return NONE;
        }
        latest = found.get(k).get(v);
        return 1;
    }

    int whole(int k, int v) {
        if (k < 0 || noVariable(v)) {
            return BAD;
        }
        List<int[]> found = wholes();
        if (k >= found.size()) {
            return NONE;
        }
        told = found.get(k)[v];
        return 1;
    }

    long upper() {
        return latest.top().longValueExact();
    }

    long lower() {
        return latest.bottom().longValueExact();
    }

    long told() {
        return told;
    }

    int keep(int image) {
        if (image < 0 || image > 1) {
            return BAD;
        }
        saved[image] = now.copy();
        return now.bounds.size();
    }

    int back(int image) {
        if (image < 0 || image > 1) {
            return BAD;
        }
        if (saved[image] == null) {
            return STATE;
        }
        now = saved[image].copy();
        satisfiable.clear();
        return now.bounds.size();
    }

    int count(int what) {
        return switch (what) {
            case 0 -> now.n;
            case 1 -> now.forms.size();
            case 2 -> now.bounds.size();
            case 3 -> now.levels.size();
            case 4 -> corners().size();
            case 5 -> wholes().size();
            case 6 -> text.length();
            default -> BAD;
        };
    }

    // ---- helpers

    private boolean noForm(int f) {
        return f < 0 || f >= now.forms.size();
    }

    private boolean noVariable(int v) {
        return v < 0 || v >= now.n;
    }

    private boolean noConstraint(int k) {
        return k < 0 || k >= now.bounds.size();
    }

    private boolean noBound(int f, int sort, int number) {
        return noForm(f) || sort < 0 || sort > 4 || number < -50 || number > 50;
    }

    private int all() {
        return (1 << now.bounds.size()) - 1;
    }

    private List<Frac> vector(int f) {
        List<Frac> form = new ArrayList<>();
        for (int v = 0; v < 3; v++) {
            form.add(Frac.of(now.forms.get(f)[v]));
        }
        return form;
    }

    private List<Elimination.Line> lines(int set) {
        List<Elimination.Line> lines = new ArrayList<>();
        for (int k = 0; k < now.bounds.size(); k++) {
            if ((set >> k & 1) != 0) {
                Bound b = now.bounds.get(k);
                lines.add(Elimination.line(vector(b.form), b.sort, Frac.of(b.number)));
            }
        }
        return lines;
    }

    private static Elimination.Line widened(Elimination.Line l, Frac coefficient) {
        List<Frac> form = new ArrayList<>(l.form());
        form.add(coefficient);
        return new Elimination.Line(form, l.number(), l.kind());
    }

    private boolean satisfies(int set) {
        return satisfiable.computeIfAbsent(set, s -> !Elimination.project(lines(s), 0, 3).empty());
    }

    private boolean entails(int set, int f, int sort, int number) {
        int[] denials = sort == 4 ? new int[] {1, 3} : new int[] {3 - sort};
        for (int denial : denials) {
            List<Elimination.Line> lines = lines(set);
            lines.add(Elimination.line(vector(f), denial, Frac.of(number)));
            if (!Elimination.project(lines, 0, 3).empty()) {
                return false;
            }
        }
        return true;
    }

    private static Frac dot(List<Frac> one, List<Frac> other) {
        Frac sum = Frac.ZERO;
        for (int v = 0; v < 3; v++) {
            sum = sum.plus(one.get(v).times(other.get(v)));
        }
        return sum;
    }

    private List<Frac> samplePoint() {
        List<Elimination.Line> lines = lines(all());
        List<Frac> point = new ArrayList<>();
        for (int v = 0; v < 3; v++) {
            Frac x = v < now.n ? simplest(Elimination.project(lines, v, 3)) : Frac.ZERO;
            point.add(x);
            List<Frac> unit = new ArrayList<>();
            for (int w = 0; w < 3; w++) {
                unit.add(Frac.of(w == v ? 1 : 0));
            }
            lines.add(new Elimination.Line(unit, x, 2));
        }
        return point;
    }

    /** Tries all denominators in turn. */
    private static Frac simplest(Elimination.Interval in) {
        for (long d = 1;; d++) {
            TreeSet<BigInteger> tops = new TreeSet<>((p, q) -> {
                int order = p.abs().compareTo(q.abs());
                return order != 0 ? order : q.compareTo(p);
            });
            tops.add(BigInteger.ZERO);
            for (Frac end : new Frac[] {in.low(), in.high()}) {
                if (end != null) {
                    BigInteger near = end.top().multiply(BigInteger.valueOf(d)).divide(end.bottom());
                    for (int i = -2; i <= 2; i++) {
                        tops.add(near.add(BigInteger.valueOf(i)));
                    }
                }
            }
            for (BigInteger top : tops) {
                Frac x = Frac.of(top, BigInteger.valueOf(d));
                if (in.has(x)) {
                    return x;
                }
            }
        }
    }

    /** Each point at which n constraints that have independent forms have their numbers, by elimination. */
    private List<List<Frac>> corners() {
        TreeSet<List<Frac>> found = new TreeSet<>((p, q) -> {
            for (int v = 0; v < 3; v++) {
                int order = p.get(v).compareTo(q.get(v));
                if (order != 0) {
                    return order;
                }
            }
            return 0;
        });
        for (int set = 1; set <= all(); set++) {
            if (Integer.bitCount(set) == now.n) {
                List<Frac> point = onlyPoint(set);
                if (point != null && closedHolds(point)) {
                    found.add(point);
                }
            }
        }
        return new ArrayList<>(found);
    }

    private List<Frac> onlyPoint(int set) {
        List<Elimination.Line> equations = new ArrayList<>();
        for (Elimination.Line l : lines(set)) {
            equations.add(new Elimination.Line(l.form(), l.number(), 2));
        }
        List<Frac> point = new ArrayList<>();
        for (int v = 0; v < 3; v++) {
            Elimination.Interval in = v < now.n ? Elimination.project(equations, v, 3) : null;
            if (in != null && (in.empty() || in.low() == null)) {
                return null;
            }
            point.add(in == null ? Frac.ZERO : in.low());
        }
        return point;
    }

    private boolean closedHolds(List<Frac> point) {
        for (Elimination.Line l : lines(all())) {
            int order = dot(l.form(), point).compareTo(l.number());
            if (order > 0 || l.kind() == 2 && order != 0) {
                return false;
            }
        }
        return true;
    }

    private List<int[]> wholes() {
        List<int[]> found = new ArrayList<>();
        int points = now.n == 1 ? 9 : now.n == 2 ? 81 : 729;
        for (int i = 0; i < points; i++) {
            int[] p = new int[3];
            int rest = i;
            for (int v = now.n - 1; v >= 0; v--) {
                p[v] = rest % 9 - 4;
                rest /= 9;
            }
            boolean good = true;
            for (Bound b : now.bounds) {
                int[] f = now.forms.get(b.form);
                int left = f[0] * p[0] + f[1] * p[1] + f[2] * p[2];
                good &= switch (b.sort) {
                    case 0 -> left <= b.number;
                    case 1 -> left < b.number;
                    case 2 -> left >= b.number;
                    case 3 -> left > b.number;
                    default -> left == b.number;
                };
            }
            if (good) {
                found.add(p);
            }
        }
        return found;
    }
}
