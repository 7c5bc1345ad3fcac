/** The paragraph FORMS AND CONSTRAINTS and the promises 1, 5 to 10 and 27 to 29, sentence by sentence. */
public final class StateBoundariesTest {
    private static final int BAD = BoundProofs.BAD;
    private static final int STATE = BoundProofs.STATE;
    private static final int FULL = BoundProofs.FULL;
    private static final int NONE = BoundProofs.NONE;
    private static final int MIN = Integer.MIN_VALUE;
    private static final int MAX = Integer.MAX_VALUE;
    private static final int[] EXTREMES = {MIN, MIN + 1, -65536, -256, 256, 65536, MAX - 1, MAX};
    private static final Checks C = new Checks();

    public static void main(String[] args) {
        newObject();
        newObjectsHaveNothingInCommon();
        coefficientsOfForms();
        eightForms();
        namesOfCoefficients();
        argumentsOfConstraints();
        tenConstraints();
        namesOfBounds();
        relations();
        fourLevels();
        endsOfLevels();
        levelsOfFullObjects();
        placesOfImages();
        savedStates();
        savedOver();
        whatIsNotSaved();
        counts();
        manyCalls();
        C.end();
    }

    private static BoundProofs start(String text) {
        return Checks.of(text);
    }

    private static void newObject() {
        C.about("1: without forms, constraints and levels, with two variables; the text is empty, and nothing is saved");
        C.due("count(0)", new BoundProofs().count(0), 2);
        C.due("count(1)", new BoundProofs().count(1), 0);
        C.due("count(2)", new BoundProofs().count(2), 0);
        C.due("count(3)", new BoundProofs().count(3), 0);
        C.due("count(6)", new BoundProofs().count(6), 0);
        C.due("back(0)", new BoundProofs().back(0), STATE);
        C.due("back(1)", new BoundProofs().back(1), STATE);
        C.due("tells()", new BoundProofs().tells(), 0);
        C.due("clear()", new BoundProofs().clear(), 0);
        C.due("coefficient(0, 0)", new BoundProofs().coefficient(0, 0), BAD);
        C.due("asserts(0, 0, 0)", new BoundProofs().asserts(0, 0, 0), BAD);
        C.due("bound(0, 0)", new BoundProofs().bound(0, 0), BAD);
        C.due("withdraws(1)", new BoundProofs().withdraws(1), BAD);
        C.due("withdraws(0)", new BoundProofs().withdraws(0), BAD);
        C.about("FORMS: the empty set is satisfiable");
        C.due("met()", new BoundProofs().met(), 1);
        C.due("core()", new BoundProofs().core(), 0);
        C.due("spared(0)", new BoundProofs().spared(0), 0);
        C.due("spared(1)", new BoundProofs().spared(1), 0);
        C.about("1: there is nothing to ask for in a new object");
        C.due("proof(0)", new BoundProofs().proof(0), BAD);
        C.due("relief(0)", new BoundProofs().relief(0), BAD);
        C.due("range(0, 0)", new BoundProofs().range(0, 0), BAD);
        C.due("follows(0, 0, 0)", new BoundProofs().follows(0, 0, 0), BAD);
        C.due("since(0, 0, 0)", new BoundProofs().since(0, 0, 0), BAD);
        C.due("why(0, 0, 0)", new BoundProofs().why(0, 0, 0), BAD);
        C.due("value(0)", new BoundProofs().value(0), BAD);
        C.due("sample(1)", new BoundProofs().sample(1), 1);
        C.due("sample(2)", new BoundProofs().sample(2), BAD);
        C.due("corner(0, 0)", new BoundProofs().corner(0, 0), NONE);
        C.due("whole(80, 1)", new BoundProofs().whole(80, 1), 1);
        C.due("whole(81, 1)", new BoundProofs().whole(81, 1), NONE);
    }

    private static void newObjectsHaveNothingInCommon() {
        C.about("1: an object knows nothing of another one");
        BoundProofs x = start("n3;fa;b0 0 1;b0 2 2;");
        x.keep(0);
        x.level();
        x.proof(0);
        x.relief(0);
        x.type('f');
        BoundProofs y = new BoundProofs();
        int[] counts = {2, 0, 0, 0, 0, 81, 0};
        for (int what = 0; what < counts.length; what++) {
            C.due("count(" + what + ")", y.count(what), counts[what]);
        }
        C.due("back(0)", y.back(0), STATE);
        C.due("told()", y.told(), 0);
        C.number(y, 0, 1);
        y.form(0, 1, 0);
        y.asserts(0, 4, 3);
        C.due("coefficient(0, 0) of the first", x.coefficient(0, 0), 11);
        C.due("count(2) of the first", x.count(2), 2);
        C.due("told() of the first", x.told(), 1);
    }

    private static void coefficientsOfForms() {
        C.about("5: BAD if a coefficient is out of range, all are 0, or that of a variable that does not exist is not 0");
        for (int n = 1; n <= 3; n++) {
            for (int i = 0; i < 11 * 11 * 11; i++) {
                int[] c = {i / 121 - 5, i / 11 % 11 - 5, i % 11 - 5};
                boolean allowed = c[0] != 0 || c[1] != 0 || c[2] != 0;
                for (int v = 0; v < 3; v++) {
                    allowed &= v < n ? c[v] >= -3 && c[v] <= 3 : c[v] == 0;
                }
                BoundProofs x = start("n" + n + ";");
                String call = "form(" + c[0] + ", " + c[1] + ", " + c[2] + ") with n = " + n;
                C.due(call, x.form(c[0], c[1], c[2]), allowed ? 0 : BAD);
                C.due("forms behind " + call, x.count(1), allowed ? 1 : 0);
                for (int v = -1; v <= 3; v++) {
                    int due = allowed && v >= 0 && v < n ? c[v] + 10 : BAD;
                    C.due("coefficient(0, " + v + ") behind " + call, x.coefficient(0, v), due);
                }
            }
        }
        BoundProofs x = start("n3;");
        for (int c : EXTREMES) {
            C.due("form(" + c + ", 1, 1)", x.form(c, 1, 1), BAD);
            C.due("form(1, " + c + ", 1)", x.form(1, c, 1), BAD);
            C.due("form(1, 1, " + c + ")", x.form(1, 1, c), BAD);
            C.due("form of " + c, x.form(c, c, c), BAD);
        }
        C.due("count(1)", x.count(1), 0);
    }

    private static void eightForms() {
        C.about("5: returns the number of the form, from 0; FULL if there are eight forms");
        BoundProofs x = start("n3;");
        for (int f = 0; f < 8; f++) {
            C.due("count(1)", x.count(1), f);
            C.due("form()", x.form(f % 4, -3, f - 4 < -3 ? 3 : f - 4), f);
        }
        C.due("form(1, 0, 0)", x.form(1, 0, 0), FULL);
        C.due("form(-3, 3, 3)", x.form(-3, 3, 3), FULL);
        C.about("5: BAD rather than FULL");
        C.due("form(0, 0, 0)", x.form(0, 0, 0), BAD);
        C.due("form(4, 0, 0)", x.form(4, 0, 0), BAD);
        C.due("form(0, -4, 0)", x.form(0, -4, 0), BAD);
        C.due("form(0, 0, 4)", x.form(0, 0, 4), BAD);
        C.about("5: an error changes no form");
        C.due("count(1)", x.count(1), 8);
        for (int f = 0; f < 8; f++) {
            C.due("coefficient(" + f + ", 0)", x.coefficient(f, 0), 10 + f % 4);
            C.due("coefficient(" + f + ", 1)", x.coefficient(f, 1), 7);
            C.due("coefficient(" + f + ", 2)", x.coefficient(f, 2), f == 0 ? 13 : 6 + f);
        }
        C.about("5: BAD rather than FULL for a variable that does not exist");
        x = start("fa;fa;fa;fa;fa;fa;fa;fa;");
        C.due("form(1, 0, 1)", x.form(1, 0, 1), BAD);
        C.due("form(1, 1, 0)", x.form(1, 1, 0), FULL);
        x = start("n1;fa;fa;fa;fa;fa;fa;fa;fa;");
        C.due("form(1, 1, 0)", x.form(1, 1, 0), BAD);
        C.due("form(1, 0, 0)", x.form(1, 0, 0), FULL);
        C.about("5: two forms can be the same");
        x = new BoundProofs();
        C.due("form(1, 2, 0)", x.form(1, 2, 0), 0);
        C.due("form(1, 2, 0)", x.form(1, 2, 0), 1);
    }

    private static void namesOfCoefficients() {
        C.about("6: the coefficient plus 10; BAD if there is no such form or variable");
        for (int n = 1; n <= 3; n++) {
            BoundProofs x = start("n" + n + ";f-3a;f3a;f2a;");
            int[] due = {7, 13, 12};
            for (int f = -2; f <= 9; f++) {
                for (int v = -2; v <= 5; v++) {
                    boolean exists = f >= 0 && f < 3 && v >= 0 && v < n;
                    C.due("coefficient(" + f + ", " + v + ") with n = " + n, x.coefficient(f, v), !exists ? BAD : v == 0 ? due[f] : 10);
                }
            }
            for (int e : EXTREMES) {
                C.due("coefficient(" + e + ", 0)", x.coefficient(e, 0), BAD);
                C.due("coefficient(0, " + e + ")", x.coefficient(0, e), BAD);
                C.due("coefficient(" + e + ", " + e + ")", x.coefficient(e, e), BAD);
            }
        }
    }

    private static void argumentsOfConstraints() {
        C.about("7: BAD if there is no such form or another argument is out of range");
        for (int f = -2; f <= 3; f++) {
            for (int sort = -2; sort <= 6; sort++) {
                for (int number = -53; number <= 53; number++) {
                    BoundProofs x = start("fa;fb;");
                    boolean allowed = f >= 0 && f < 2 && sort >= 0 && sort <= 4 && number >= -50 && number <= 50;
                    String call = "asserts(" + f + ", " + sort + ", " + number + ")";
                    C.due(call, x.asserts(f, sort, number), allowed ? 0 : BAD);
                    C.due("constraints behind " + call, x.count(2), allowed ? 1 : 0);
                    C.due("form behind " + call, x.bound(0, 0), allowed ? f : BAD);
                    C.due("relation behind " + call, x.bound(0, 1), allowed ? sort : BAD);
                    C.due("number behind " + call, x.bound(0, 2), allowed ? number + 100 : BAD);
                }
            }
        }
        BoundProofs x = start("fa;fb;");
        for (int e : EXTREMES) {
            C.due("asserts(" + e + ", 0, 0)", x.asserts(e, 0, 0), BAD);
            C.due("asserts(0, " + e + ", 0)", x.asserts(0, e, 0), BAD);
            C.due("asserts(0, 0, " + e + ")", x.asserts(0, 0, e), BAD);
        }
        C.due("count(2)", x.count(2), 0);
        C.about("7: the eighth form can be used, the ninth does not exist");
        x = start("fa;fa;fa;fa;fa;fa;fa;fb;");
        C.due("asserts(7, 0, 0)", x.asserts(7, 0, 0), 0);
        C.due("asserts(8, 0, 0)", x.asserts(8, 0, 0), BAD);
    }

    private static void tenConstraints() {
        C.about("7: returns the number by which it is counted, from 0; FULL if there are ten");
        BoundProofs x = start("fa;fb;");
        for (int k = 0; k < 10; k++) {
            C.due("count(2)", x.count(2), k);
            C.due("asserts()", x.asserts(k % 2, k % 5, 10 * k - 40), k);
        }
        C.due("asserts(0, 0, 0)", x.asserts(0, 0, 0), FULL);
        C.due("asserts(1, 4, 50)", x.asserts(1, 4, 50), FULL);
        C.about("7: BAD rather than FULL");
        C.due("no such form", x.asserts(2, 0, 0), BAD);
        C.due("no such form", x.asserts(-1, 0, 0), BAD);
        C.due("no such relation", x.asserts(0, 5, 0), BAD);
        C.due("no such relation", x.asserts(0, -1, 0), BAD);
        C.due("no such number", x.asserts(0, 0, 51), BAD);
        C.due("no such number", x.asserts(0, 0, -51), BAD);
        C.about("7: an error changes no constraint");
        C.due("count(2)", x.count(2), 10);
        for (int k = 0; k < 10; k++) {
            C.due("bound(" + k + ", 0)", x.bound(k, 0), k % 2);
            C.due("bound(" + k + ", 1)", x.bound(k, 1), k % 5);
            C.due("bound(" + k + ", 2)", x.bound(k, 2), 60 + 10 * k);
        }
        C.about("7: the tenth constraint counts");
        x = start("fa;b0 0 1;b0 0 1;b0 0 1;b0 0 1;b0 0 1;b0 0 1;b0 0 1;b0 0 1;b0 0 1;");
        C.due("met()", x.met(), 1);
        C.due("asserts(0, 3, 1)", x.asserts(0, 3, 1), 9);
        C.due("met()", x.met(), 0);
        C.due("core()", x.core(), 1 + 512);
        C.about("7: two constraints can be the same");
        x = start("fa;");
        C.due("asserts(0, 1, 2)", x.asserts(0, 1, 2), 0);
        C.due("asserts(0, 1, 2)", x.asserts(0, 1, 2), 1);
    }

    private static void namesOfBounds() {
        C.about("8: BAD if there is no such constraint or what is not 0 to 2");
        BoundProofs x = start("fa;fb;b1 4 -50;b0 3 50;");
        int[][] due = {{1, 4, 50}, {0, 3, 150}};
        for (int k = -2; k <= 11; k++) {
            for (int what = -2; what <= 4; what++) {
                boolean exists = k >= 0 && k < 2 && what >= 0 && what <= 2;
                C.due("bound(" + k + ", " + what + ")", x.bound(k, what), exists ? due[k][what] : BAD);
            }
        }
        for (int e : EXTREMES) {
            C.due("bound(" + e + ", 0)", x.bound(e, 0), BAD);
            C.due("bound(0, " + e + ")", x.bound(0, e), BAD);
        }
        C.about("8: a constraint that was removed does not exist");
        x.level();
        x.asserts(0, 0, 0);
        C.due("bound(2, 2)", x.bound(2, 2), 100);
        x.withdraws(1);
        C.due("bound(2, 2)", x.bound(2, 2), BAD);
        C.due("bound(1, 2)", x.bound(1, 2), 150);
    }

    private static void relations() {
        C.about("FORMS: relation 0 at most, 1 less than, 2 at least, 3 greater than, 4 equal to the number");
        int[][] holds = {{1, 1, 0}, {1, 0, 0}, {0, 1, 1}, {0, 0, 1}, {0, 1, 0}};
        for (int sort = 0; sort <= 4; sort++) {
            for (int number = -50; number <= 50; number++) {
                for (int side = -1; side <= 1; side++) {
                    if (Math.abs(number + side) <= 50) {
                        BoundProofs x = start("fa;");
                        x.asserts(0, 4, number + side);
                        x.asserts(0, sort, number);
                        C.due("relation " + sort + " to " + number + " of " + (number + side), x.met(), holds[sort][side + 1]);
                    }
                }
            }
        }
        C.about("FORMS: relations 1 and 3 are strict, the others are not");
        int[][] closed = {{0, 1}, {1, 0}, {2, 1}, {3, 0}, {4, 1}};
        for (int[] c : closed) {
            BoundProofs x = start("fa;b0 " + c[0] + " 7;");
            int what = c[0] == 2 || c[0] == 3 ? 0 : 1;
            C.due("range(0, " + what + ") of relation " + c[0], x.range(0, what), c[1]);
            C.number(x, 7, 1);
        }
    }

    private static void fourLevels() {
        C.about("9: returns how many levels there are then; FULL if there are four");
        BoundProofs x = new BoundProofs();
        for (int i = 1; i <= 4; i++) {
            C.due("level()", x.level(), i);
            C.due("count(3)", x.count(3), i);
        }
        C.due("level()", x.level(), FULL);
        C.due("level()", x.level(), FULL);
        C.due("count(3)", x.count(3), 4);
        C.about("9: there is room again when a level has ended");
        C.due("withdraws(1)", x.withdraws(1), 0);
        C.due("level()", x.level(), 4);
        C.due("level()", x.level(), FULL);
        C.due("withdraws(4)", x.withdraws(4), 0);
        C.due("level()", x.level(), 1);
        C.about("9: a level that is FULL changes nothing of the fourth");
        x = start("fa;");
        x.level();
        x.level();
        x.level();
        x.asserts(0, 0, 1);
        x.level();
        x.asserts(0, 0, 2);
        C.due("level()", x.level(), FULL);
        C.due("withdraws(1)", x.withdraws(1), 1);
        C.due("withdraws(1)", x.withdraws(1), 0);
    }

    /** Constraints 0 and 1, then four levels that begin at 2, 3, 3 and 5 constraints, then two more. */
    private static BoundProofs levels() {
        BoundProofs x = start("fa;fb;b0 0 1;b0 0 2;");
        int[] more = {1, 0, 2, 2};
        for (int i = 0; i < 4; i++) {
            x.level();
            for (int j = 0; j < more[i]; j++) {
                x.asserts(1, i, 10 * i + j);
            }
        }
        return x;
    }

    private static void endsOfLevels() {
        C.about("10: all constraints that were added since the first one of these began are removed");
        int[] left = {7, 5, 3, 3, 2};
        for (int n = 1; n <= 4; n++) {
            BoundProofs x = levels();
            C.due("count(2)", x.count(2), 7);
            C.due("withdraws(" + n + ")", x.withdraws(n), left[n]);
            C.due("count(2)", x.count(2), left[n]);
            C.due("count(3)", x.count(3), 4 - n);
            for (int k = 0; k < 2; k++) {
                C.due("bound(" + k + ", 2)", x.bound(k, 2), 101 + k);
            }
            C.due("bound of the first that is gone", x.bound(left[n], 0), BAD);
            if (n < 4) {
                C.due("the levels below remember", x.withdraws(4 - n), 2);
            }
        }
        C.about("10: one by one");
        BoundProofs x = levels();
        for (int n = 1; n <= 4; n++) {
            C.due("withdraws(1)", x.withdraws(1), left[n]);
        }
        C.due("withdraws(1)", x.withdraws(1), BAD);
        C.about("10: n is 1 to the number of levels; BAD if it is out of range");
        for (int levels = 0; levels <= 4; levels++) {
            for (int n = -2; n <= 6; n++) {
                x = levels();
                if (levels < 4) {
                    x.withdraws(4 - levels);
                }
                int before = x.count(2);
                boolean allowed = n >= 1 && n <= levels;
                C.due("withdraws(" + n + ") of " + levels, x.withdraws(n), allowed ? left[4 - levels + n] : BAD);
                C.due("constraints then", x.count(2), allowed ? left[4 - levels + n] : before);
                C.due("levels then", x.count(3), allowed ? levels - n : levels);
            }
        }
        x = levels();
        for (int e : EXTREMES) {
            C.due("withdraws(" + e + ")", x.withdraws(e), BAD);
        }
        C.due("count(3)", x.count(3), 4);
        C.due("count(2)", x.count(2), 7);
        C.about("10: forms stay");
        x.form(1, 1, 0);
        C.due("withdraws(4)", x.withdraws(4), 2);
        C.due("count(1)", x.count(1), 3);
        C.due("coefficient(2, 1)", x.coefficient(2, 1), 11);
        C.about("10: a number that was removed is given again");
        C.due("asserts(2, 4, -9)", x.asserts(2, 4, -9), 2);
        C.due("bound(2, 0)", x.bound(2, 0), 2);
        C.due("bound(2, 1)", x.bound(2, 1), 4);
        C.due("bound(2, 2)", x.bound(2, 2), 91);
    }

    private static void levelsOfFullObjects() {
        C.about("10: levels of an object with ten constraints");
        BoundProofs x = start("fa;b0 0 9;b0 0 8;b0 0 7;b0 0 6;b0 0 5;b0 0 4;b0 0 3;b0 0 2;b0 0 1;");
        C.due("level()", x.level(), 1);
        C.due("asserts(0, 2, 2)", x.asserts(0, 2, 2), 9);
        C.due("level()", x.level(), 2);
        C.due("asserts(0, 0, 0)", x.asserts(0, 0, 0), FULL);
        C.due("withdraws(1)", x.withdraws(1), 10);
        C.due("met()", x.met(), 0);
        C.due("withdraws(1)", x.withdraws(1), 9);
        C.due("met()", x.met(), 1);
        C.due("asserts(0, 0, 0)", x.asserts(0, 0, 0), 9);
        C.due("asserts(0, 0, 0)", x.asserts(0, 0, 0), FULL);
        C.about("10: levels without constraints");
        x = start("fa;");
        x.level();
        for (int k = 0; k < 10; k++) {
            x.asserts(0, 4, k);
        }
        C.due("spared(0)", x.spared(0), 9);
        C.due("withdraws(1)", x.withdraws(1), 0);
        C.due("spared(0)", x.spared(0), 0);
        C.due("met()", x.met(), 1);
        C.due("count(4)", x.count(4), 0);
        C.due("count(5)", x.count(5), 81);
        C.due("range(0, 0)", x.range(0, 0), NONE);
    }

    private static void placesOfImages() {
        C.about("27: BAD if image is out of range");
        BoundProofs x = start("fa;b0 0 1;");
        for (int image : new int[] {-2, -1, 2, 3}) {
            C.due("keep(" + image + ")", x.keep(image), BAD);
        }
        for (int image : EXTREMES) {
            C.due("keep(" + image + ")", x.keep(image), BAD);
        }
        C.about("28: STATE if nothing is saved there");
        C.due("back(0)", x.back(0), STATE);
        C.due("back(1)", x.back(1), STATE);
        C.about("28: BAD if image is out of range, rather than STATE");
        for (int image : new int[] {-2, -1, 2, 3}) {
            C.due("back(" + image + ")", x.back(image), BAD);
        }
        for (int image : EXTREMES) {
            C.due("back(" + image + ")", x.back(image), BAD);
        }
        C.about("27: a place is saved without the other");
        C.due("keep(0)", x.keep(0), 1);
        C.due("back(1)", x.back(1), STATE);
        C.due("back(0)", x.back(0), 1);
        x = start("fa;b0 0 1;");
        C.due("keep(1)", x.keep(1), 1);
        C.due("back(0)", x.back(0), STATE);
        C.due("back(1)", x.back(1), 1);
        C.due("back(2)", x.back(2), BAD);
        C.due("back(-1)", x.back(-1), BAD);
    }

    private static void savedStates() {
        C.about("27: the empty and the full can be saved; returns the number of constraints");
        BoundProofs x = new BoundProofs();
        C.due("keep(0)", x.keep(0), 0);
        for (int f = 0; f < 8; f++) {
            x.form(1 + f % 3, f < 5 ? 0 : -3, 0);
        }
        x.asserts(0, 0, 5);
        for (int i = 0; i < 4; i++) {
            x.level();
            x.asserts(i, 0, 10 * i);
            x.asserts(i, 2, -10 * i);
        }
        x.asserts(7, 4, -50);
        C.due("keep(1)", x.keep(1), 10);
        C.about("28: restores what was saved; returns the number of constraints then");
        C.due("back(0)", x.back(0), 0);
        int[] none = {2, 0, 0, 0, 0, 81};
        for (int what = 0; what < none.length; what++) {
            C.due("count(" + what + ")", x.count(what), none[what]);
        }
        C.due("coefficient(0, 0)", x.coefficient(0, 0), BAD);
        C.due("bound(0, 0)", x.bound(0, 0), BAD);
        C.due("withdraws(1)", x.withdraws(1), BAD);
        C.due("back(1)", x.back(1), 10);
        C.due("count(1)", x.count(1), 8);
        C.due("count(2)", x.count(2), 10);
        C.due("count(3)", x.count(3), 4);
        for (int f = 0; f < 8; f++) {
            C.due("coefficient(" + f + ", 0)", x.coefficient(f, 0), 11 + f % 3);
            C.due("coefficient(" + f + ", 1)", x.coefficient(f, 1), f < 5 ? 10 : 7);
        }
        for (int k = 1; k < 9; k++) {
            int i = (k - 1) / 2;
            C.due("bound(" + k + ", 0)", x.bound(k, 0), i);
            C.due("bound(" + k + ", 1)", x.bound(k, 1), k % 2 == 1 ? 0 : 2);
            C.due("bound(" + k + ", 2)", x.bound(k, 2), 100 + (k % 2 == 1 ? 10 : -10) * i);
        }
        C.due("FULL again", x.form(1, 0, 0), FULL);
        C.due("FULL again", x.asserts(0, 0, 0), FULL);
        C.due("FULL again", x.level(), FULL);
        int[] left = {7, 5, 3, 1};
        for (int n : left) {
            C.due("the levels remember", x.withdraws(1), n);
        }
        C.about("28: it stays saved");
        x.asserts(0, 3, 40);
        C.due("back(1)", x.back(1), 10);
        C.due("count(3)", x.count(3), 4);
        C.due("bound(1, 2)", x.bound(1, 2), 100);
        C.due("back(0)", x.back(0), 0);
        C.due("back(1)", x.back(1), 10);
        C.about("28: the levels remember what they did when they were saved");
        x = levels();
        x.keep(0);
        x.withdraws(4);
        for (int i = 0; i < 4; i++) {
            x.level();
        }
        C.due("keep(1)", x.keep(1), 2);
        C.due("back(0)", x.back(0), 7);
        for (int n : new int[] {5, 3, 3, 2}) {
            C.due("withdraws(1)", x.withdraws(1), n);
        }
        C.due("back(1)", x.back(1), 2);
        C.due("withdraws(1)", x.withdraws(1), 2);
        C.due("back(0)", x.back(0), 7);
        C.due("withdraws(1)", x.withdraws(1), 5);
        C.due("withdraws(2)", x.withdraws(2), 3);
    }

    private static void savedOver() {
        BoundProofs x = levels();
        C.about("27: what was saved in this place before is lost, that of the other place is not");
        x.keep(0);
        x.keep(1);
        x.withdraws(3);
        C.due("keep(1)", x.keep(1), 3);
        x.withdraws(1);
        C.due("back(1)", x.back(1), 3);
        C.due("count(3)", x.count(3), 1);
        C.due("back(0)", x.back(0), 7);
        C.due("count(3)", x.count(3), 4);
        x.withdraws(4);
        C.due("keep(0)", x.keep(0), 2);
        C.due("back(1)", x.back(1), 3);
        C.due("back(0)", x.back(0), 2);
        C.due("count(3)", x.count(3), 0);
    }

    private static void whatIsNotSaved() {
        C.about("27: the text and the results are not saved");
        BoundProofs x = start("fa;b0 0 1;b0 2 3;");
        x.type('f');
        x.keep(0);
        x.type('a');
        C.due("relief(0)", x.relief(0), 1);
        C.due("proof(0)", x.proof(0), 1);
        C.due("back(0)", x.back(0), 2);
        C.due("count(6)", x.count(6), 2);
        C.number(x, 2, 1);
        C.due("told()", x.told(), 1);
        C.due("type(59)", x.type(';'), 3);
        C.due("tells()", x.tells(), 1);
        C.about("4: nothing is saved then");
        C.due("back(0)", x.back(0), STATE);
        C.about("27: keep changes nothing of what there is");
        x = levels();
        C.due("keep(0)", x.keep(0), 7);
        C.due("keep(1)", x.keep(1), 7);
        C.due("withdraws(2)", x.withdraws(2), 3);
        C.due("keep(0)", x.keep(0), 3);
        C.due("withdraws(2)", x.withdraws(2), 2);
        C.due("back(0)", x.back(0), 3);
        C.due("withdraws(2)", x.withdraws(2), 2);
        C.due("back(1)", x.back(1), 7);
        C.due("withdraws(3)", x.withdraws(3), 3);
    }

    private static void counts() {
        C.about("29: BAD if what is not 0 to 6");
        BoundProofs x = start("n1;f2a;fa;fa;fa;b0 0 5;b1 2 -1;b0 2 -9;");
        x.level();
        x.level();
        x.type('f');
        x.type('f');
        x.type('f');
        x.type('f');
        x.type('f');
        int[] due = {1, 4, 3, 2, 2, 4, 5};
        for (int what = -3; what <= 9; what++) {
            C.due("count(" + what + ")", x.count(what), what >= 0 && what <= 6 ? due[what] : BAD);
        }
        for (int e : EXTREMES) {
            C.due("count(" + e + ")", x.count(e), BAD);
        }
        C.about("29: 0 variables");
        for (int n = 1; n <= 3; n++) {
            C.due("count(0)", start("n" + n + ";").count(0), n);
        }
        C.about("29: 5 small integer solutions, all of them and none");
        C.due("n = 1", start("n1;").count(5), 9);
        C.due("n = 2", start("").count(5), 81);
        C.due("n = 3", start("n3;").count(5), 729);
        C.due("none", start("n3;fa;b0 3 4;").count(5), 0);
        C.due("unsatisfiable", start("n3;fa;b0 3 0;b0 1 0;").count(5), 0);
        C.about("29: 4 vertices, also of what is satisfiable only if strict relations are taken as not strict");
        C.due("count(4)", start("n1;fa;b0 3 0;b0 1 0;").count(4), 1);
        C.due("count(4)", start("n1;fa;b0 3 0;b0 1 -1;").count(4), 0);
        C.due("count(4)", start("n1;").count(4), 0);
    }

    private static void manyCalls() {
        C.about("an object is used for at most 512 calls");
        BoundProofs x = new BoundProofs();
        C.due("form(1, 0, 0)", x.form(1, 0, 0), 0);
        for (int i = 0; i < 73; i++) {
            C.due("level()", x.level(), 1);
            C.due("asserts(0, 0, 3)", x.asserts(0, 0, 3), 0);
            C.due("asserts(0, 3, 3)", x.asserts(0, 3, 3), 1);
            C.due("core()", x.core(), 3);
            C.due("withdraws(1)", x.withdraws(1), 0);
            C.due("met()", x.met(), 1);
            C.due("keep(1)", x.keep(1), 0);
        }
    }
}
