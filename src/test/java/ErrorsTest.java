import java.util.ArrayList;
import java.util.List;

/**
 * The paragraph ERRORS: which error is returned where several apply, and that a call that returns an error
 * changes nothing; and that queries change nothing but the results. Two objects are made alike, one of them gets
 * the call, and then all that can be found out about them must be the same.
 */
public final class ErrorsTest {
    private static final int BAD = BoundProofs.BAD;
    private static final int STATE = BoundProofs.STATE;
    private static final int FULL = BoundProofs.FULL;
    private static final Checks C = new Checks();

    private interface Call {
        long on(BoundProofs x);
    }

    private record Named(String name, Call call, long due) { }

    private record State(String name, Call build, List<Named> errors) { }

    public static void main(String[] args) {
        for (State state : states()) {
            List<Named> errors = new ArrayList<>(state.errors());
            errors.addAll(bad());
            for (Named error : errors) {
                changesNothing(state, error);
            }
            for (Named query : queries()) {
                changesResultsOnly(state, query);
            }
        }
        C.end();
    }

    private static List<Named> bad() {
        List<Named> all = new ArrayList<>(List.of(
            bad("type(-1)", x -> x.type(-1)), bad("type(256)", x -> x.type(256)),
            bad("form(0, 0, 0)", x -> x.form(0, 0, 0)), bad("form(4, 0, 0)", x -> x.form(4, 0, 0)),
            bad("form(-4, 0, 0)", x -> x.form(-4, 0, 0)), bad("form(1, 4, 0)", x -> x.form(1, 4, 0)),
            bad("form(1, 0, -4)", x -> x.form(1, 0, -4)),
            bad("coefficient(8, 0)", x -> x.coefficient(8, 0)), bad("coefficient(-1, 0)", x -> x.coefficient(-1, 0)),
            bad("coefficient(0, 3)", x -> x.coefficient(0, 3)), bad("coefficient(0, -1)", x -> x.coefficient(0, -1)),
            bad("bound(10, 0)", x -> x.bound(10, 0)), bad("bound(-1, 0)", x -> x.bound(-1, 0)),
            bad("bound(0, 3)", x -> x.bound(0, 3)), bad("bound(0, -1)", x -> x.bound(0, -1)),
            bad("withdraws(0)", x -> x.withdraws(0)), bad("withdraws(-1)", x -> x.withdraws(-1)),
            bad("withdraws(5)", x -> x.withdraws(5)),
            bad("proof(10)", x -> x.proof(10)), bad("proof(-1)", x -> x.proof(-1)),
            bad("relief(10)", x -> x.relief(10)), bad("relief(-1)", x -> x.relief(-1)),
            bad("spared(2)", x -> x.spared(2)), bad("spared(-1)", x -> x.spared(-1)),
            bad("range(8, 0)", x -> x.range(8, 0)), bad("range(-1, 1)", x -> x.range(-1, 1)),
            bad("range(0, 2)", x -> x.range(0, 2)), bad("range(0, -1)", x -> x.range(0, -1)),
            bad("sample(3)", x -> x.sample(3)), bad("sample(-1)", x -> x.sample(-1)),
            bad("value(8)", x -> x.value(8)), bad("value(-1)", x -> x.value(-1)),
            bad("corner(-1, 0)", x -> x.corner(-1, 0)), bad("corner(0, 3)", x -> x.corner(0, 3)),
            bad("corner(0, -1)", x -> x.corner(0, -1)), bad("corner(999, 3)", x -> x.corner(999, 3)),
            bad("whole(-1, 0)", x -> x.whole(-1, 0)), bad("whole(0, 3)", x -> x.whole(0, 3)),
            bad("whole(0, -1)", x -> x.whole(0, -1)), bad("whole(999, 3)", x -> x.whole(999, 3)),
            bad("keep(2)", x -> x.keep(2)), bad("keep(-1)", x -> x.keep(-1)),
            bad("back(2)", x -> x.back(2)), bad("back(-1)", x -> x.back(-1)),
            bad("count(7)", x -> x.count(7)), bad("count(-1)", x -> x.count(-1))));
        int[][] wrong = {{8, 0, 0}, {-1, 0, 0}, {0, 5, 0}, {0, -1, 0}, {0, 0, 51}, {0, 0, -51}};
        for (int[] w : wrong) {
            String of = "(" + w[0] + ", " + w[1] + ", " + w[2] + ")";
            all.add(bad("asserts" + of, x -> x.asserts(w[0], w[1], w[2])));
            all.add(bad("follows" + of, x -> x.follows(w[0], w[1], w[2])));
            all.add(bad("since" + of, x -> x.since(w[0], w[1], w[2])));
            all.add(bad("why" + of, x -> x.why(w[0], w[1], w[2])));
        }
        return all;
    }

    private static Named bad(String name, Call call) {
        return new Named(name, call, BAD);
    }

    private static Named state(String name, Call call) {
        return new Named(name, call, STATE);
    }

    private static Named full(String name, Call call) {
        return new Named(name, call, FULL);
    }

    private static List<Named> queries() {
        List<Named> all = new ArrayList<>(List.of(
            query("met", x -> x.met()), query("core", x -> x.core()),
            query("spared(0)", x -> x.spared(0)), query("spared(1)", x -> x.spared(1)),
            query("upper", x -> x.upper()), query("lower", x -> x.lower()), query("told", x -> x.told())));
        for (int i = 0; i < 10; i++) {
            int k = i;
            all.add(query("proof " + k, x -> x.proof(k)));
            all.add(query("relief " + k, x -> x.relief(k)));
            all.add(query("bound " + k, x -> x.bound(k, k % 3)));
            all.add(query("range " + k, x -> x.range(k / 2, k % 2)));
            all.add(query("value " + k, x -> x.value(k)));
            all.add(query("corner " + k, x -> x.corner(k, k % 2)));
            all.add(query("whole " + k, x -> x.whole(k, k % 2)));
            all.add(query("follows " + k, x -> x.follows(k / 5, k % 5, k)));
            all.add(query("since " + k, x -> x.since(k / 5, k % 5, k)));
            all.add(query("why " + k, x -> x.why(k / 5, k % 5, k)));
            all.add(query("sample " + k % 3, x -> x.sample(k % 3)));
            all.add(query("count " + k, x -> x.count(k)));
            all.add(query("coefficient " + k, x -> x.coefficient(k / 3, k % 3)));
        }
        return all;
    }

    private static Named query(String name, Call call) {
        return new Named(name, call, 0);
    }

    private static List<State> states() {
        List<Named> unsaved = List.of(state("back(0)", x -> x.back(0)), state("back(1)", x -> x.back(1)));
        List<Named> hidden = List.of(bad("form(1, 0, 1)", x -> x.form(1, 0, 1)), bad("sample(2)", x -> x.sample(2)),
            bad("corner(0, 2)", x -> x.corner(0, 2)), bad("whole(0, 2)", x -> x.whole(0, 2)));
        List<Named> fulls = List.of(full("type(59)", x -> x.type(';')), full("form(1, 0, 0)", x -> x.form(1, 0, 0)),
            full("asserts(0, 0, 0)", x -> x.asserts(0, 0, 0)), full("level()", x -> x.level()));
        List<Named> met = List.of(state("proof(0)", x -> x.proof(0)), state("proof(9)", x -> x.proof(9)));
        List<Named> unmet = List.of(state("range(0, 0)", x -> x.range(0, 0)), state("range(7, 1)", x -> x.range(7, 1)),
            state("sample(0)", x -> x.sample(0)), state("sample(2)", x -> x.sample(2)),
            state("value(0)", x -> x.value(0)), state("value(7)", x -> x.value(7)));
        List<Named> wrongText = List.of(new Named("tells()", x -> x.tells(), -10 - 13));
        return List.of(
            new State("a new object", x -> 0, join(unsaved, hidden)),
            new State("some of everything", ErrorsTest::some, join(hidden, List.of(
                state("back(1)", x -> x.back(1)), bad("coefficient(3, 0)", x -> x.coefficient(3, 0)),
                bad("asserts(3, 0, 0)", x -> x.asserts(3, 0, 0)), bad("bound(3, 0)", x -> x.bound(3, 0)),
                bad("withdraws(3)", x -> x.withdraws(3)), bad("relief(3)", x -> x.relief(3)), bad("value(3)", x -> x.value(3)),
                new Named("tells()", x -> x.tells(), -10 - 4)))),
            new State("a text without an end", ErrorsTest::begin, join(unsaved, List.of(new Named("tells()", x -> x.tells(), -10 - 17)))),
            new State("full and satisfiable", x -> fill(x, 1), join(fulls, met, wrongText)),
            new State("full and unsatisfiable", x -> fill(x, 0), join(fulls, unmet, wrongText)));
    }

    @SafeVarargs
    private static List<Named> join(List<Named>... lists) {
        List<Named> all = new ArrayList<>();
        for (List<Named> list : lists) {
            all.addAll(list);
        }
        return all;
    }

    private static long some(BoundProofs x) {
        Checks.tell(x, "f3a;fb;fa-b;b0 0 4;");
        x.level();
        x.asserts(1, 2, 2);
        x.keep(0);
        x.level();
        x.asserts(2, 3, -9);
        x.range(0, 1);
        x.whole(2, 1);
        write(x, "fa;b1 0 0;");
        return 0;
    }

    /** One letter more makes the text right, so that all of it can be seen then. */
    private static long begin(BoundProofs x) {
        write(x, "n3;fa+2c;b0 3 -17");
        return 0;
    }

    /** As full as can be: 90 letters, eight forms, ten constraints, four levels, both places. */
    private static long fill(BoundProofs x, int met) {
        Checks.tell(x, "n3;f3a;f2b;fc;fa+b;fb-c;f2a-3c;b0 0 5;b1 0 7;");
        x.keep(0);
        for (int i = 0; i < 4; i++) {
            x.level();
            for (int j = 0; j < (i == 2 ? 0 : 2); j++) {
                x.asserts(2 * j + i % 2, met == 1 ? 0 : 2 * j, 9 + i + j);
            }
        }
        x.form(1, 1, 1);
        x.keep(1);
        x.form(-1, 2, -3);
        x.asserts(7, 4, 0);
        x.asserts(2, met == 1 ? 0 : 3, met == 1 ? 3 : 40);
        if (met == 1) {
            x.range(0, 1);
            x.whole(5, 2);
        } else {
            x.proof(0);
        }
        write(x, "n1;fa;b0 0 0;;" + " ".repeat(75) + ";");
        C.due("filled", 100 * x.count(1) + 10 * x.count(2) + x.count(3) + x.count(6) * 1000 + x.met(), 90904 + met);
        return 0;
    }

    private static void write(BoundProofs x, String text) {
        for (int i = 0; i < text.length(); i++) {
            x.type(text.charAt(i));
        }
    }

    private static void look(BoundProofs x, StringBuilder seen) {
        for (int what = 0; what < 7; what++) {
            seen.append(x.count(what)).append(' ');
        }
        for (int f = 0; f <= 8; f++) {
            for (int v = 0; v < 3; v++) {
                seen.append(x.coefficient(f, v)).append(' ');
            }
        }
        for (int k = 0; k <= 10; k++) {
            for (int what = 0; what < 3; what++) {
                seen.append(x.bound(k, what)).append(' ');
            }
        }
        seen.append(x.met()).append(' ').append(x.core()).append(' ').append(x.spared(1)).append('\n');
    }

    private static void lookAtLevels(BoundProofs x, StringBuilder seen) {
        look(x, seen);
        for (int i = 0; i < 4; i++) {
            seen.append(x.withdraws(1)).append(": ");
        }
        look(x, seen);
    }

    private static String results(BoundProofs x) {
        return x.upper() + "/" + x.lower() + " " + x.told();
    }

    /** What can be found out in one of the ways that destroy other traces. */
    private static String traces(BoundProofs x, int way) {
        StringBuilder seen = new StringBuilder();
        if (way == 0) {
            lookAtLevels(x, seen);
        } else if (way <= 2) {
            seen.append(x.back(way - 1)).append(": ");
            lookAtLevels(x, seen);
        } else {
            seen.append(x.tells()).append(": ");
            seen.append(x.type(';')).append(": ").append(x.tells()).append(": ");
            look(x, seen);
        }
        return seen.toString();
    }

    private static BoundProofs build(State state) {
        BoundProofs x = new BoundProofs();
        state.build().on(x);
        return x;
    }

    private static void same(String what, String got, String due) {
        if (!got.equals(due)) {
            C.due(what + "\n" + got + " instead of\n" + due, 0, 1);
        }
    }

    private static void changesNothing(State state, Named error) {
        C.about("ERRORS: " + error.name() + " on " + state.name());
        for (int way = 0; way < 4; way++) {
            BoundProofs x = build(state);
            BoundProofs twin = build(state);
            C.due("the error", error.call().on(x), error.due());
            same("results", results(x), results(twin));
            same("traces", traces(x, way), traces(twin, way));
        }
    }

    private static void changesResultsOnly(State state, Named query) {
        C.about("QUERIES: " + query.name() + " on " + state.name());
        boolean findsNumber = query.name().matches("(relief|range|sample|value|corner) .*");
        boolean tells = query.name().matches("(proof|whole) .*");
        for (int way = 0; way < 4; way++) {
            BoundProofs x = build(state);
            BoundProofs twin = build(state);
            long answer = query.call().on(x);
            C.due("the same answer twice", query.call().on(x), answer);
            if (answer < 0 || !findsNumber) {
                C.number(x, twin.upper(), twin.lower());
            }
            if (answer < 0 || !tells) {
                C.due("told()", x.told(), twin.told());
            }
            same("traces", traces(x, way), traces(twin, way));
        }
    }
}
