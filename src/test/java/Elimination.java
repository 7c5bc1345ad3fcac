import java.util.ArrayList;
import java.util.LinkedHashMap;
import java.util.List;
import java.util.Map;

/**
 * Variables are eliminated one by one (Gauss for equations, Fourier and Motzkin for the rest): another way
 * to the answers than the class goes.
 */
final class Elimination {
    /** The form is at most (kind 0), less than (1) or equal to (2) the number. */
    record Line(List<Frac> form, Frac number, int kind) { }

    /** Ends of an interval; null stands for no end. */
    record Interval(Frac low, boolean lowOpen, Frac high, boolean highOpen, boolean empty) {
        boolean has(Frac x) {
            if (empty) {
                return false;
            }
            if (low != null && (x.compareTo(low) < 0 || lowOpen && x.compareTo(low) == 0)) {
                return false;
            }
            return high == null || x.compareTo(high) < 0 || !highOpen && x.compareTo(high) == 0;
        }
    }

    private Elimination() { }

    static Line line(List<Frac> form, int sort, Frac number) {
        if (sort == 2 || sort == 3) {
            List<Frac> turned = new ArrayList<>();
            for (Frac c : form) {
                turned.add(c.negate());
            }
            return new Line(turned, number.negate(), sort == 2 ? 0 : 1);
        }
        return new Line(form, number, sort == 4 ? 2 : sort);
    }

    private static Line combine(Line one, Frac p, Line other, Frac q, int kind) {
        List<Frac> form = new ArrayList<>();
        for (int i = 0; i < one.form.size(); i++) {
            form.add(one.form.get(i).times(p).plus(other.form.get(i).times(q)));
        }
        return new Line(form, one.number.times(p).plus(other.number.times(q)), kind);
    }

    /** The same line with a first coefficient of 1 or -1, so that equal lines can be found. */
    private static Line scaled(Line l) {
        for (Frac c : l.form) {
            if (c.sign() != 0) {
                Frac by = Frac.ONE.over(c.sign() < 0 ? c.negate() : c);
                return combine(l, by, l, Frac.ZERO, l.kind);
            }
        }
        return l;
    }

    /** Of inequalities with the same form only the sharpest one is left. */
    private static List<Line> tidy(List<Line> lines) {
        List<Line> result = new ArrayList<>();
        Map<List<Frac>, Line> sharpest = new LinkedHashMap<>();
        for (Line raw : lines) {
            Line l = scaled(raw);
            if (l.kind == 2) {
                result.add(l);
                continue;
            }
            Line old = sharpest.get(l.form);
            int order = old == null ? -1 : l.number.compareTo(old.number);
            if (order < 0 || order == 0 && l.kind == 1) {
                sharpest.put(l.form, l);
            }
        }
        result.addAll(sharpest.values());
        return result;
    }

    static List<Line> eliminate(List<Line> lines, int v) {
        for (Line e : lines) {
            if (e.kind == 2 && e.form.get(v).sign() != 0) {
                List<Line> result = new ArrayList<>();
                for (Line l : lines) {
                    if (l != e) {
                        Frac q = l.form.get(v).over(e.form.get(v)).negate();
                        result.add(combine(l, Frac.ONE, e, q, l.kind));
                    }
                }
                return tidy(result);
            }
        }
        List<Line> result = new ArrayList<>();
        for (Line l : lines) {
            if (l.form.get(v).sign() == 0) {
                result.add(l);
            }
        }
        for (Line up : lines) {
            for (Line down : lines) {
                if (up.form.get(v).sign() > 0 && down.form.get(v).sign() < 0) {
                    result.add(combine(up, down.form.get(v).negate(), down, up.form.get(v), Math.max(up.kind, down.kind)));
                }
            }
        }
        return tidy(result);
    }

    /** The numbers that variable v has at points that satisfy all lines. */
    static Interval project(List<Line> start, int v, int size) {
        List<Line> lines = tidy(start);
        for (int i = 0; i < size; i++) {
            if (i != v) {
                lines = eliminate(lines, i);
            }
        }
        Frac low = null;
        Frac high = null;
        boolean lowOpen = false;
        boolean highOpen = false;
        boolean empty = false;
        for (Line l : lines) {
            Frac c = l.form.get(v);
            if (c.sign() == 0) {
                int s = l.number.sign();
                empty |= l.kind == 0 && s < 0 || l.kind == 1 && s <= 0 || l.kind == 2 && s != 0;
                continue;
            }
            Frac at = l.number.over(c);
            if (c.sign() > 0 || l.kind == 2) {
                int order = high == null ? -1 : at.compareTo(high);
                highOpen = order < 0 ? l.kind == 1 : highOpen || order == 0 && l.kind == 1;
                high = order < 0 ? at : high;
            }
            if (c.sign() < 0 || l.kind == 2) {
                int order = low == null ? 1 : at.compareTo(low);
                lowOpen = order > 0 ? l.kind == 1 : lowOpen || order == 0 && l.kind == 1;
                low = order > 0 ? at : low;
            }
        }
        if (low != null && high != null) {
            int order = low.compareTo(high);
            empty |= order > 0 || order == 0 && (lowOpen || highOpen);
        }
        return new Interval(low, lowOpen, high, highOpen, empty);
    }
}
