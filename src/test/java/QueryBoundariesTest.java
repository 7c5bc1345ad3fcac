/** The paragraph QUERIES and the promises 11 to 26, sentence by sentence; LineTest has all that happens on a line. */
public final class QueryBoundariesTest {
    private static final int BAD = BoundProofs.BAD;
    private static final int STATE = BoundProofs.STATE;
    private static final int NONE = BoundProofs.NONE;
    private static final int MIN = Integer.MIN_VALUE;
    private static final int MAX = Integer.MAX_VALUE;
    private static final int[] EXTREMES = {MIN, MIN + 1, -65536, -256, 256, 65536, MAX - 1, MAX};
    /** Ten constraints in which the first and the last contradict each other, and no others. */
    private static final String FIRST_AND_LAST = "fa;fb;b0 0 1;b1 0 1;b1 0 1;b1 0 1;b1 0 1;b1 0 1;b1 0 1;b1 0 1;b1 0 1;";
    private static final String UNSATISFIABLE = "fa;fb;b0 0 1;b0 3 1;";
    private static final Checks C = new Checks();

    public static void main(String[] args) {
        met();
        core();
        sizesOfCores();
        proof();
        multipliers();
        relief();
        reliefOfEqual();
        spared();
        range();
        rangeEnds();
        argumentsOfEntailment();
        follows();
        since();
        why();
        sample();
        simplest();
        value();
        corner();
        vertices();
        whole();
        latestNumber();
        lowestTerms();
        latestTold();
        C.end();
    }

    private static BoundProofs start(String text) {
        C.text(text);
        return Checks.of(text);
    }

    private static BoundProofs firstAndLast() {
        BoundProofs x = start(FIRST_AND_LAST);
        x.asserts(0, 3, 1);
        return x;
    }

    private static void met() {
        C.about("11: returns 1 if all constraints together are satisfiable, else 0");
        C.due("none", start("").met(), 1);
        C.due("forms only", start("n3;fa;fb;fc;").met(), 1);
        C.due("touching", start("fa;fb;fa+b;b0 0 2;b1 0 3;b2 2 5;").met(), 1);
        C.due("touching, the first strict", start("fa;fb;fa+b;b0 1 2;b1 0 3;b2 2 5;").met(), 0);
        C.due("touching, the second strict", start("fa;fb;fa+b;b0 0 2;b1 1 3;b2 2 5;").met(), 0);
        C.due("touching, the third strict", start("fa;fb;fa+b;b0 0 2;b1 0 3;b2 3 5;").met(), 0);
        C.due("apart", start("fa;fb;fa+b;b0 0 2;b1 0 3;b2 2 6;").met(), 0);
        C.due("touching in space", start("n3;fa;fb;fc;fa+b+c;b0 0 1;b1 0 1;b2 0 1;b3 2 3;").met(), 1);
        C.due("touching in space, strict", start("n3;fa;fb;fc;fa+b+c;b0 0 1;b1 0 1;b2 0 1;b3 3 3;").met(), 0);
        C.due("thin, but not empty", start("f3a;f2a;b0 3 1;b1 1 1;").met(), 1);
        C.due("rational, not integer", start("f2a;b0 4 1;").met(), 1);
        C.due("the first and the last of ten", firstAndLast().met(), 0);
        C.about("11: in an object that no text was read into");
        BoundProofs untold = new BoundProofs();
        untold.form(1, 0, 0);
        untold.form(0, 1, 0);
        untold.form(1, 1, 0);
        untold.asserts(0, 0, 1);
        untold.asserts(1, 0, 1);
        C.due("range(2, 1)", untold.range(2, 1), 1);
        untold.asserts(2, 3, 2);
        C.due("met()", untold.met(), 0);
        C.due("core()", untold.core(), 7);
        C.about("11: constraints that were removed do not count");
        BoundProofs x = start("fa;b0 0 1;");
        x.level();
        x.asserts(0, 3, 1);
        C.due("met()", x.met(), 0);
        x.withdraws(1);
        C.due("met()", x.met(), 1);
        x.asserts(0, 2, 1);
        C.due("met()", x.met(), 1);
    }

    private static void core() {
        C.about("12: 0 if all constraints together are satisfiable");
        C.due("none", start("").core(), 0);
        C.due("one", start("fa;b0 4 50;").core(), 0);
        C.due("touching", start("fa;b0 0 1;b0 2 1;").core(), 0);
        C.about("12: from the last one to the first one, each is removed if what is left is still unsatisfiable");
        C.due("three that are equal", start("fa;b0 0 1;b0 3 1;b0 3 1;b0 0 1;").core(), 3);
        C.due("the last goes before the first", start("fa;b0 0 0;b0 0 1;b0 2 2;").core(), 5);
        C.due("a smaller core with a later one is not taken", start("n3;fa;fb;fc;fa+b+c;b0 0 1;b1 0 1;b2 1 1;b3 2 3;b3 0 2;").core(), 15);
        C.due("a core of three before one of two", start("fa;fb;fa+b;b0 0 1;b1 0 1;b2 3 2;b2 0 2;").core(), 7);
        C.about("ERRORS: bit k stands for number k");
        C.due("0 and 9", firstAndLast().core(), 1 + 512);
        BoundProofs x = start("fb;fa;b0 0 1;b0 0 1;b0 0 1;b0 0 1;b0 0 1;b0 0 1;b0 0 1;b0 0 1;b1 0 1;");
        x.asserts(1, 3, 1);
        C.due("8 and 9", x.core(), 256 + 512);
        C.about("12: without any one of its constraints the core is satisfiable");
        for (int without = 0; without < 4; without++) {
            StringBuilder text = new StringBuilder("n3;fa;fb;fc;fa+b+c;");
            String[] bounds = {"b0 0 1;", "b1 0 1;", "b2 1 1;", "b3 2 3;"};
            for (int k = 0; k < 4; k++) {
                text.append(k == without ? "" : bounds[k]);
            }
            C.due("without " + without, start(text.toString()).core(), 0);
        }
    }

    private static void sizesOfCores() {
        C.about("QUERIES: cores of two, three and four constraints");
        C.due("n = 1", start("n1;f2a;f3a;b0 0 1;b1 2 2;").core(), 3);
        C.due("n = 2", start("fa;fb;fa+b;b0 0 1;b1 0 1;b2 3 2;").core(), 7);
        C.due("n = 3", start("n3;fa;fb;fc;fa+b+c;b0 0 1;b1 0 1;b2 0 1;b3 3 3;").core(), 15);
        C.due("n = 3, three in a plane", start("n3;fa-b;fb-c;fc-a;b0 1 0;b1 0 0;b2 0 0;").core(), 7);
        C.due("n = 3, two on a line", start("n3;fa+b+c;f-2a-2b-2c;b0 0 1;b1 1 -2;").core(), 3);
        C.due("a form in c alone", start("n3;fc;f3c;b0 4 1;b1 4 2;").core(), 3);
    }

    private static void proof() {
        C.about("13: BAD if there is no such constraint");
        BoundProofs x = start(UNSATISFIABLE);
        for (int k = -2; k <= 11; k++) {
            C.due("proof(" + k + ")", x.proof(k), k == 0 || k == 1 ? 1 : BAD);
        }
        for (int e : EXTREMES) {
            C.due("proof(" + e + ")", x.proof(e), BAD);
        }
        C.about("13: STATE if all constraints together are satisfiable");
        x = start("fa;b0 0 1;b0 2 1;");
        C.due("proof(0)", x.proof(0), STATE);
        C.due("proof(1)", x.proof(1), STATE);
        C.about("13: BAD rather than STATE");
        C.due("proof(2)", x.proof(2), BAD);
        C.due("proof(-1)", x.proof(-1), BAD);
        C.due("proof(0) without constraints", start("fa;").proof(0), BAD);
        C.due("told()", x.told(), 0);
        C.about("13: 1 if it is in the core, else 0, and told() returns 0 if it is not in the core");
        x = firstAndLast();
        for (int k = 9; k >= 0; k--) {
            C.due("proof(" + k + ")", x.proof(k), k == 0 || k == 9 ? 1 : 0);
            C.due("told()", x.told(), k == 0 || k == 9 ? 1 : 0);
        }
        C.due("proof(10)", x.proof(10), BAD);
        C.due("told()", x.told(), 1);
        C.about("13: a constraint that could be in another core is not in this one");
        x = start("fa;b0 0 1;b0 3 1;b0 0 0;");
        C.due("proof(2)", x.proof(2), 0);
        C.due("told()", x.told(), 0);
    }

    private static void certificate(String text, int... multipliers) {
        BoundProofs x = start(text);
        for (int k = 0; k < multipliers.length; k++) {
            C.due("proof(" + k + ")", x.proof(k), multipliers[k] == 0 ? 0 : 1);
            C.due("told() behind proof(" + k + ")", x.told(), multipliers[k]);
        }
    }

    private static void multipliers() {
        C.about("QUERIES: the multipliers are above 0");
        certificate("fa;b0 0 1;b0 3 1;", 1, 1);
        certificate("fa;b0 2 2;b0 1 2;", 1, 1);
        certificate("f2a;f3a;b0 0 1;b1 2 2;", 3, 2);
        certificate("f-2a;f-3a;b0 0 1;b1 2 2;", 3, 2);
        certificate("fa;f-3a;b0 0 -1;b1 0 2;", 3, 1);
        certificate("f3a+2b;f-2a+b;f-a-3b;b0 0 1;b1 1 -2;b2 0 -9;", 1, 1, 1);
        C.about("QUERIES: no integer above 1 divides all of them");
        certificate("f2a;f2a;b0 0 1;b1 3 1;", 1, 1);
        certificate("f3a;f-3a;b0 0 1;b1 1 -1;", 1, 1);
        certificate("f2a+2b;f3a+3b;b0 0 2;b1 3 3;", 3, 2);
        certificate("n3;f3a+3b;f3b+3c;f3a-3c;b0 4 1;b1 4 1;b2 3 0;", 1, -1, 1);
        certificate("n3;f3a;f3b;f3c;f3a+3b+3c;b0 0 1;b1 0 1;b2 0 1;b3 3 3;", 1, 1, 1, 1);
        C.about("QUERIES: for relation 4 they can be of any sign and are not 0");
        certificate("fa;b0 4 1;b0 0 0;", -1, 1);
        certificate("fa;b0 4 1;b0 2 2;", 1, 1);
        certificate("fa;b0 4 1;b0 4 2;", 1, -1);
        certificate("fa;b0 4 2;b0 4 1;", -1, 1);
        certificate("fa;f-a;b0 4 1;b1 4 1;", -1, -1);
        certificate("fa;f-a;b0 4 -1;b1 4 -1;", 1, 1);
        certificate("fa;fb;fa+b;b0 4 1;b1 4 1;b2 4 3;", 1, 1, -1);
        certificate("fa;fb;fa+b;b0 4 1;b1 4 1;b2 4 1;", -1, -1, 1);
        certificate("fa;fb;fa+b;b0 4 1;b1 3 2;b2 4 3;", -1, 1, 1);
        C.about("QUERIES: the number is below 0, or is 0 if some constraint of the core is strict");
        certificate("fa;b0 4 1;b0 1 1;", -1, 1);
        certificate("fa;b0 4 1;b0 3 1;", 1, 1);
        certificate("fa;b0 0 0;b0 2 1;b0 3 0;", 1, 1, 0);
        certificate("fa;b0 0 0;b0 3 0;b0 2 1;", 1, 1, 0);
        C.about("QUERIES: forms and numbers are negated for the relations 2 and 3");
        certificate("f2a;fa;b0 2 3;b1 1 1;", 1, 2);
        certificate("f2a;fa;b0 3 -3;b1 0 -2;", 1, 2);
        C.about("QUERIES: certificates of four constraints with all coefficients");
        certificate("n3;f3a+2b-c;f-a+b+3c;fa-2b-3c;f3a-3b+c;b0 0 1;b1 0 -3;b2 0 -5;b3 2 9;", 5, 28, 25, 4);
        certificate("n3;f3a+2b+3c;f-3a-3b-2c;f-a-b+2c;f3a-b+2c;b0 2 0;b1 2 7;b2 0 -9;b3 0 5;", 8, 7, 3, 2);
        certificate("n3;f-a-3b-3c;f3a-3b-c;f3a+b-3c;fa+3b+c;b0 0 -8;b1 0 -6;b2 2 -6;b3 0 -2;", 5, 2, 3, 8);
        certificate("n3;f2a+3b-3c;f3a-2b-c;f3a+b-2c;f-2a+2b-2c;b0 2 4;b1 2 -4;b2 0 -7;b3 0 -3;", 11, 5, 15, 4);
        C.about("QUERIES: certificates of three constraints in a plane of space");
        certificate("n3;fb;fc;fb+c;b0 0 1;b1 0 1;b2 3 2;", 1, 1, 1);
        certificate("n3;f2a;f3c;fa+c;b0 0 2;b1 0 3;b2 3 2;", 3, 2, 6);
        certificate("n3;fa-3b+2c;f2a+b-c;f3a-2b+c;b0 4 1;b1 4 2;b2 4 4;", 1, 1, -1);
        C.about("QUERIES: forms that differ in one variable only do not contradict each other");
        for (String pair : new String[] {"fa+c;fa+2c;", "fa+b;fa+2b;", "fb+c;fb+2c;", "fa+b+c;fa+b+2c;", "fa+b+c;fa+2b+c;", "fa+b+c;f2a+b+c;"}) {
            C.due("met()", start("n3;" + pair + "b0 0 -1;b1 2 1;").met(), 1);
        }
        C.about("13: the multiplier is that of the core");
        certificate("f3a;f2a;fa;b0 0 1;b2 0 0;b1 2 1;", 2, 0, 3);
    }

    private static void relieves(String text, int k, int answer, long top, long bottom) {
        BoundProofs x = start(text);
        C.due("relief(" + k + ")", x.relief(k), answer);
        C.number(x, top, bottom);
    }

    private static void relief() {
        C.about("14: BAD if there is no such constraint");
        BoundProofs x = start(UNSATISFIABLE);
        for (int k = -2; k <= 11; k++) {
            C.due("relief(" + k + ")", x.relief(k), k == 0 || k == 1 ? 0 : BAD);
        }
        for (int e : EXTREMES) {
            C.due("relief(" + e + ")", x.relief(e), BAD);
        }
        C.due("relief(0) without constraints", start("fa;").relief(0), BAD);
        C.about("14: s is 0 or more, also where the constraint could be tighter");
        for (int sort = 0; sort <= 4; sort++) {
            relieves("fa;b0 " + sort + " 7;", 0, 1, 0, 1);
        }
        relieves("fa;b0 0 9;b0 2 1;", 0, 1, 0, 1);
        relieves("fa;b0 0 9;b0 2 1;", 1, 1, 0, 1);
        C.about("14: for the relations 0 and 1 its number is increased by s");
        relieves("fa;b0 0 1;b0 2 4;", 0, 1, 3, 1);
        relieves("fa;b0 1 1;b0 2 4;", 0, 0, 3, 1);
        relieves("fa;f3a;b1 0 1;b0 2 4;", 0, 1, 11, 1);
        C.about("14: for 2 and 3 it is decreased by s");
        relieves("fa;b0 2 4;b0 0 1;", 0, 1, 3, 1);
        relieves("fa;b0 3 4;b0 0 1;", 0, 0, 3, 1);
        relieves("fa;b0 2 4;b0 1 1;", 0, 0, 3, 1);
        C.about("14: 0 if only with each s above r, also if r is 0");
        relieves("fa;b0 1 1;b0 3 1;", 0, 0, 0, 1);
        relieves("fa;b0 1 1;b0 2 1;", 0, 0, 0, 1);
        relieves("fa;b0 1 1;b0 2 1;", 1, 0, 0, 1);
        C.about("14: the number can leave -50 to 50");
        relieves("fa;b0 0 -50;b0 2 50;", 0, 1, 100, 1);
        relieves("fa;b0 0 -50;b0 2 50;", 1, 1, 100, 1);
        relieves("f3a;fa;b0 0 -50;b1 2 50;", 0, 1, 200, 1);
        C.about("14: r is exact");
        relieves("fa;f3a;b0 0 0;b1 2 1;", 0, 1, 1, 3);
        relieves("fa;fb;f2a+3b;b0 0 0;b1 0 0;b2 3 1;", 1, 0, 1, 3);
        relieves("n3;f3a;f3b;f2c;fa+b+c;b0 0 1;b1 0 1;b2 0 1;b3 2 2;", 0, 1, 5, 2);
        C.about("14: NONE if the others are not satisfiable");
        relieves("fa;fb;b0 0 1;b0 3 1;b1 0 0;", 2, NONE, 0, 1);
        relieves("fa;b0 0 1;b0 3 1;b0 4 1;", 2, NONE, 0, 1);
        relieves("fa;b0 0 1;b0 3 1;b0 4 1;", 0, NONE, 0, 1);
        relieves("fa;b0 0 1;b0 3 1;b0 4 1;", 1, 0, 0, 1);
        C.about("14: a constraint that is not in the core, but in each unsatisfiable set");
        relieves("fa;b0 0 0;b0 0 1;b0 2 3;", 2, 1, 3, 1);
        C.about("14: a strict constraint that has nothing to do with it");
        for (String bounds : new String[] {"b1 1 5;b0 0 1;b0 2 4;", "b0 0 1;b1 1 5;b0 2 4;", "b0 0 1;b0 2 4;b1 1 5;"}) {
            relieves("fa;fb;" + bounds, bounds.startsWith("b1") ? 1 : 0, 1, 3, 1);
            relieves("fa;fb;" + bounds, bounds.endsWith("5;") ? 1 : 2, 1, 3, 1);
        }
        C.about("14: the constraint stays as it is");
        x = start("fa;b0 0 1;b0 2 4;");
        C.due("relief(0)", x.relief(0), 1);
        C.due("bound(0, 2)", x.bound(0, 2), 101);
        C.due("met()", x.met(), 0);
    }

    private static void reliefOfEqual() {
        C.about("14: for 4 the value must be at least its number minus s and at most its number plus s");
        relieves("fa;b0 4 1;b0 2 4;", 0, 1, 3, 1);
        relieves("fa;b0 4 1;b0 3 4;", 0, 0, 3, 1);
        relieves("fa;b0 4 4;b0 0 1;", 0, 1, 3, 1);
        relieves("fa;b0 4 4;b0 1 1;", 0, 0, 3, 1);
        relieves("fa;b0 4 1;b0 4 4;", 0, 1, 3, 1);
        relieves("fa;b0 4 1;b0 4 4;", 1, 1, 3, 1);
        relieves("fa;b0 4 1;b0 3 1;", 0, 0, 0, 1);
        relieves("fa;b0 4 1;b0 1 1;", 0, 0, 0, 1);
        relieves("fa;b0 4 1;b0 1 1;", 1, 0, 0, 1);
        relieves("fa;b0 4 1;b0 2 1;", 0, 1, 0, 1);
        relieves("fa;f3a;b0 4 0;b1 4 1;", 0, 1, 1, 3);
        relieves("fa;f3a;b0 4 0;b1 4 -1;", 0, 1, 1, 3);
        relieves("fa;fb;fa+b;b0 4 0;b1 4 0;b2 4 -50;", 1, 1, 50, 1);
    }

    private static void spared() {
        C.about("15: BAD if what is not 0 or 1");
        for (String text : new String[] {"", "fa;b0 0 1;", UNSATISFIABLE}) {
            BoundProofs x = start(text);
            int met = x.met();
            for (int what = -2; what <= 4; what++) {
                C.due("spared(" + what + ")", x.spared(what), what != 0 && what != 1 ? BAD : met == 1 ? 0 : 1);
            }
            for (int e : EXTREMES) {
                C.due("spared(" + e + ")", x.spared(e), BAD);
            }
        }
        C.about("15: both 0 if all constraints together are satisfiable");
        BoundProofs x = start("fa;b0 0 1;b0 2 1;");
        C.due("spared(0)", x.spared(0), 0);
        C.due("spared(1)", x.spared(1), 0);
        C.about("15: of several sets the one with the smallest number");
        C.due("the first of two", start("fa;b0 0 1;b0 3 1;").spared(1), 1);
        C.due("the first of ten", firstAndLast().spared(1), 1);
        C.due("{0, 3} is 9 and {1, 2} is 6", start("fa;fb;b0 3 1;b0 0 1;b0 0 0;b0 3 2;").spared(1), 6);
        C.about("15: fewest rather than the smallest number");
        x = start("fa;b0 4 1;b0 4 1;b0 4 1;b0 4 2;");
        C.due("spared(0)", x.spared(0), 1);
        C.due("{3} is 8 and {0, 1, 2} is 7", x.spared(1), 8);
        x = start("fa;b0 4 1;b0 4 1;b0 4 1;b0 4 1;b0 4 1;b0 4 1;b0 4 1;b0 4 1;b0 4 1;");
        x.asserts(0, 3, 1);
        C.due("spared(0)", x.spared(0), 1);
        C.due("the tenth", x.spared(1), 512);
        C.about("15: one of ten constraints can always stay");
        x = start("fa;b0 4 1;b0 4 2;b0 4 3;b0 4 4;b0 4 5;b0 4 6;b0 4 7;b0 4 8;b0 4 9;");
        x.asserts(0, 4, 0);
        C.due("spared(0)", x.spared(0), 9);
        C.due("spared(1)", x.spared(1), 511);
        C.about("15: one that is in all unsatisfiable sets");
        x = start("fa;b0 2 5;b0 0 1;b0 0 2;b0 0 3;");
        C.due("spared(0)", x.spared(0), 1);
        C.due("spared(1)", x.spared(1), 1);
    }

    private static void range() {
        C.about("16: BAD if there is no such form or what is not 0 or 1");
        for (String text : new String[] {"fa;fb;", UNSATISFIABLE, "fa;fb;b0 0 1;"}) {
            BoundProofs x = start(text);
            int met = x.met();
            for (int f = -2; f <= 9; f++) {
                for (int what = -2; what <= 3; what++) {
                    boolean exists = f >= 0 && f < 2 && what >= 0 && what <= 1;
                    int some = met == 0 ? STATE : f == 0 && what == 1 && x.count(2) == 1 ? 1 : NONE;
                    C.due("range(" + f + ", " + what + ")", x.range(f, what), exists ? some : BAD);
                }
            }
            for (int e : EXTREMES) {
                C.due("range(" + e + ", 0)", x.range(e, 0), BAD);
                C.due("range(0, " + e + ")", x.range(0, e), BAD);
            }
        }
        C.about("16: STATE if all constraints together are not satisfiable, rather than NONE");
        BoundProofs x = start(UNSATISFIABLE);
        C.due("range(1, 0)", x.range(1, 0), STATE);
        C.due("range(0, 1)", x.range(0, 1), STATE);
        x = start("fa;b0 1 0;b0 3 0;");
        C.due("only just not", x.range(0, 0), STATE);
        C.number(x, 0, 1);
    }

    private static void ranges(String text, int f, int what, int answer, long top, long bottom) {
        BoundProofs x = start(text);
        C.due("range(" + f + ", " + what + ")", x.range(f, what), answer);
        C.number(x, top, bottom);
    }

    private static void rangeEnds() {
        C.about("16: NONE if the values have no bound on this side");
        ranges("fa;", 0, 0, NONE, 0, 1);
        ranges("fa;", 0, 1, NONE, 0, 1);
        ranges("fa;b0 2 3;", 0, 1, NONE, 0, 1);
        ranges("fa;b0 0 3;", 0, 0, NONE, 0, 1);
        ranges("fa;fa+b;b0 4 3;", 1, 0, NONE, 0, 1);
        ranges("n3;fa;fb;fa+b+c;b0 4 3;b1 4 3;", 2, 1, NONE, 0, 1);
        C.about("16: 1 if some of these points has this value; 0 if not");
        ranges("fa;b0 2 3;", 0, 0, 1, 3, 1);
        ranges("fa;b0 3 3;", 0, 0, 0, 3, 1);
        ranges("fa;b0 0 3;", 0, 1, 1, 3, 1);
        ranges("fa;b0 1 3;", 0, 1, 0, 3, 1);
        ranges("fa;b0 4 3;", 0, 0, 1, 3, 1);
        ranges("fa;b0 4 3;", 0, 1, 1, 3, 1);
        ranges("f-2a;fa;b0 0 3;", 1, 0, 1, -3, 2);
        ranges("f-2a;fa;b0 1 3;", 1, 0, 0, -3, 2);
        C.about("16: the corner at the end is cut off by a strict constraint");
        ranges("fa;fb;fa+b;b0 0 1;b1 1 2;", 2, 1, 0, 3, 1);
        ranges("fa;fb;fa+b;b0 1 1;b1 0 2;", 2, 1, 0, 3, 1);
        ranges("fa;fb;fa+b;b0 0 1;b1 0 2;", 2, 1, 1, 3, 1);
        C.about("16: an end that has other points than the one that is cut off");
        ranges("fa;fb;fa+b;b0 0 1;b1 0 1;b2 1 2;", 0, 1, 1, 1, 1);
        ranges("fa;fb;fa+b;b0 0 1;b1 2 1;b2 1 2;", 0, 1, 0, 1, 1);
        C.about("16: a strict constraint that has nothing to do with it");
        ranges("fa;fb;b1 1 5;b0 0 1;", 0, 1, 1, 1, 1);
        ranges("fa;fb;b0 0 1;b1 1 5;", 0, 1, 1, 1, 1);
        ranges("n3;fa;fb;fc;fa+b;b2 1 5;b0 0 1;b1 0 2;", 3, 1, 1, 3, 1);
        C.about("16: the ends of extreme forms");
        ranges("n3;f3a;f3b;f3c;f-3a-3b-3c;b0 0 50;b1 0 50;b2 0 50;", 3, 0, 1, -150, 1);
        ranges("n3;fa;fb;fc;f3a+3b+3c;b0 2 -50;b1 2 -50;b2 3 -50;", 3, 0, 0, -450, 1);
        ranges("n3;f3a;f2b;fc;fa+b+c;b0 2 1;b1 2 1;b2 2 0;", 3, 0, 1, 5, 6);
        C.about("16: constraints that bound the values only together");
        ranges("fa+b;fa-b;fa;b0 0 1;b1 0 2;", 2, 1, 1, 3, 2);
        ranges("fa+b;fa-b;fa;b0 0 1;", 2, 1, NONE, 0, 1);
    }

    private static int ask(BoundProofs x, int method, int f, int sort, int number) {
        return method == 17 ? x.follows(f, sort, number) : method == 18 ? x.since(f, sort, number) : x.why(f, sort, number);
    }

    private static void argumentsOfEntailment() {
        String[] texts = {"fa;fb;", "fa;fb;b0 4 0;", UNSATISFIABLE};
        for (int method = 17; method <= 19; method++) {
            C.about(method + ": BAD if there is no such form or another argument is out of range");
            for (String text : texts) {
                BoundProofs x = start(text);
                for (int f : new int[] {-2, -1, 0, 1, 2, 3, 7, 8}) {
                    for (int sort = -2; sort <= 6; sort++) {
                        for (int number : new int[] {-52, -51, -50, 50, 51, 52}) {
                            boolean allowed = f >= 0 && f < 2 && sort >= 0 && sort <= 4 && Math.abs(number) <= 50;
                            int answer = ask(x, method, f, sort, number);
                            C.due("(" + f + ", " + sort + ", " + number + ") is BAD", answer == BAD ? 1 : 0, allowed ? 0 : 1);
                        }
                    }
                }
                for (int e : EXTREMES) {
                    C.due("(" + e + ", 0, 0)", ask(x, method, e, 0, 0), BAD);
                    C.due("(0, " + e + ", 0)", ask(x, method, 0, e, 0), BAD);
                    C.due("(0, 0, " + e + ")", ask(x, method, 0, 0, e), BAD);
                }
            }
        }
    }

    private static void follows() {
        C.about("17: returns 1 if it does, else 0");
        for (int number = -50; number <= 50; number++) {
            BoundProofs x = start("fa;b0 4 7;");
            C.due("at most " + number, x.follows(0, 0, number), number >= 7 ? 1 : 0);
            C.due("less than " + number, x.follows(0, 1, number), number > 7 ? 1 : 0);
            C.due("at least " + number, x.follows(0, 2, number), number <= 7 ? 1 : 0);
            C.due("greater than " + number, x.follows(0, 3, number), number < 7 ? 1 : 0);
            C.due("equal to " + number, x.follows(0, 4, number), number == 7 ? 1 : 0);
        }
        C.about("QUERIES: every one follows from an unsatisfiable set");
        for (String text : new String[] {UNSATISFIABLE, "fa;fb;b0 1 0;b0 3 0;"}) {
            BoundProofs x = start(text);
            for (int sort = 0; sort <= 4; sort++) {
                C.due("follows", x.follows(1, sort, -50), 1);
                C.due("follows", x.follows(0, sort, 50), 1);
            }
        }
        C.about("QUERIES: no constraint follows from none");
        BoundProofs x = start("fa;");
        for (int sort = 0; sort <= 4; sort++) {
            C.due("follows", x.follows(0, sort, 50), 0);
            C.due("follows", x.follows(0, sort, -50), 0);
        }
        C.about("17: the constraint need not be one of those that there are, and does not become one");
        x = start("fa;fb;fa+b;b0 0 1;b1 0 1;");
        C.due("a + b <= 2", x.follows(2, 0, 2), 1);
        C.due("a + b < 2", x.follows(2, 1, 2), 0);
        C.due("a + b >= 2", x.follows(2, 2, 2), 0);
        C.due("count(2)", x.count(2), 2);
        C.due("met()", x.met(), 1);
        C.about("17: from ten constraints, both sides of equal");
        x = ten(2);
        C.due("a = 1", x.follows(0, 4, 1), 1);
        C.due("a = 2", x.follows(0, 4, 2), 0);
        C.due("since", x.since(0, 4, 1), 10);
        C.due("why", x.why(0, 4, 1), 1 + 512);
        x = ten(0);
        C.due("one side only", x.follows(0, 4, 1), 0);
        C.due("one side only", x.since(0, 4, 1), NONE);
        C.due("one side only", x.why(0, 4, 1), NONE);
        C.about("17: equal from two sides of a plane");
        x = start("n3;fa+b;fb-c;fa+c;b0 0 3;b0 2 3;b1 4 1;");
        C.due("a + c = 2", x.follows(2, 4, 2), 1);
        C.due("a + c = 1", x.follows(2, 4, 1), 0);
    }

    /** a <= 1 nine times, then a is in a relation to 1. */
    private static BoundProofs ten(int sort) {
        BoundProofs x = start("fa;b0 0 1;b0 0 1;b0 0 1;b0 0 1;b0 0 1;b0 0 1;b0 0 1;b0 0 1;b0 0 1;");
        x.asserts(0, sort, 1);
        return x;
    }

    private static void since() {
        C.about("18: the smallest m, from 0, such that a constraint follows from the first m constraints");
        BoundProofs x = start("fa;b0 0 9;b0 0 8;b0 0 7;b0 0 6;b0 0 5;b0 0 4;b0 0 3;b0 0 2;b0 0 1;");
        x.asserts(0, 1, 1);
        for (int m = 1; m <= 9; m++) {
            C.due("at most " + (10 - m), x.since(0, 0, 10 - m), m);
            C.due("less than " + (11 - m), x.since(0, 1, 11 - m), m);
        }
        C.due("less than 1", x.since(0, 1, 1), 10);
        C.due("at most 50", x.since(0, 0, 50), 1);
        C.about("18: NONE if the constraint does not follow from all constraints");
        C.due("at most 0", x.since(0, 0, 0), NONE);
        C.due("at least -50", x.since(0, 2, -50), NONE);
        C.due("from none", start("fa;").since(0, 0, 50), NONE);
        C.about("18: from an unsatisfiable beginning");
        x = start("fa;fb;b1 0 0;b0 0 1;b0 3 1;b1 4 0;");
        C.due("b = 50", x.since(1, 4, 50), 3);
        C.due("b <= 0", x.since(1, 0, 0), 1);
        C.due("b = 0", x.since(1, 4, 0), 3);
        C.about("18: the two sides of equal can come one behind the other");
        x = start("fa;fb;b0 0 1;b1 0 1;b0 2 1;b0 4 1;");
        C.due("a = 1", x.since(0, 4, 1), 3);
    }

    private static void why() {
        C.about("19: from the last one to the first one, each is removed if the constraint still follows");
        C.due("the first of three that are equal", start("fa;b0 0 1;b0 0 1;b0 0 1;").why(0, 0, 1), 1);
        C.due("the first that is sharp enough", start("fa;b0 0 3;b0 0 2;b0 0 1;").why(0, 0, 2), 2);
        C.due("two before a later one alone", start("fa;fb;fa+b;b0 0 1;b1 0 1;b2 0 2;").why(2, 0, 2), 3);
        C.due("strict", start("fa;fb;fa+b;b0 0 1;b1 0 1;b1 1 1;").why(2, 1, 2), 5);
        C.due("both sides of equal", start("fa;b0 0 1;b0 2 1;b0 4 1;").why(0, 4, 1), 3);
        C.due("four for equal", start("fa;fb;fa+b;b0 0 1;b0 2 1;b1 0 1;b1 2 1;b2 4 2;").why(2, 4, 2), 15);
        C.about("19: the set has bit 9 for the tenth constraint");
        C.due("the tenth", firstAndLast().why(1, 0, 1), 2);
        BoundProofs x = start(FIRST_AND_LAST);
        x.asserts(0, 1, -3);
        C.due("the tenth", x.why(0, 1, -3), 512);
        C.due("the first", x.why(0, 0, 1), 1);
        C.about("19: from an unsatisfiable set");
        x = firstAndLast();
        C.due("a < -50", x.why(0, 1, -50), 1 + 512);
        C.due("b <= 1, which needs one only", x.why(1, 0, 1), 2);
        C.about("19: NONE if the constraint does not follow from all constraints");
        x = start("fa;fb;b0 0 1;");
        C.due("a < 1", x.why(0, 1, 1), NONE);
        C.due("b <= 50", x.why(1, 0, 50), NONE);
        C.due("from none", start("fa;").why(0, 0, 50), NONE);
    }

    private static void sample() {
        C.about("20: BAD if there is no such variable");
        for (int n = 1; n <= 3; n++) {
            BoundProofs x = start("n" + n + ";fa;b0 4 1;");
            for (int v = -2; v <= 4; v++) {
                C.due("sample(" + v + ") with n = " + n, x.sample(v), v >= 0 && v < n ? 1 : BAD);
            }
            for (int e : EXTREMES) {
                C.due("sample(" + e + ")", x.sample(e), BAD);
            }
            C.about("20: STATE if all constraints together are not satisfiable; BAD rather than STATE");
            x.asserts(0, 1, 1);
            for (int v = -2; v <= 4; v++) {
                C.due("sample(" + v + ") with n = " + n, x.sample(v), v >= 0 && v < n ? STATE : BAD);
            }
        }
    }

    private static void samples(String text, long... point) {
        BoundProofs x = start(text);
        for (int v = 0; v < point.length / 2; v++) {
            C.due("sample(" + v + ")", x.sample(v), 1);
            C.number(x, point[2 * v], point[2 * v + 1]);
        }
    }

    private static void simplest() {
        C.about("QUERIES: without constraints each number is 0");
        samples("n1;", 0, 1);
        samples("", 0, 1, 0, 1);
        samples("n3;", 0, 1, 0, 1, 0, 1);
        C.about("QUERIES: the smallest denominator comes before the smallest absolute value");
        samples("f2a;b0 2 1;", 1, 1);
        samples("f2a;fa;b0 2 1;b1 0 1;", 1, 1);
        samples("f2a;fa;b0 2 1;b1 1 1;", 1, 2);
        samples("f3a;b0 2 1;b0 0 2;", 1, 2);
        samples("f3a;f2a;b0 2 1;b1 1 1;", 1, 3);
        samples("f3a;f2a;b0 3 1;b1 1 1;", 2, 5);
        samples("f3a;f2a;b0 3 1;b1 0 1;", 1, 2);
        samples("f3a;f2a;b0 1 -1;b1 3 -1;", -2, 5);
        samples("f3a;fa;b0 3 2;b1 1 1;", 3, 4);
        samples("fa;b0 3 0;b0 1 1;", 1, 2);
        samples("fa;b0 3 2;b0 1 3;", 5, 2);
        C.about("QUERIES: of several the one with the smallest absolute value");
        samples("fa;b0 2 2;b0 0 5;", 2, 1);
        samples("fa;b0 3 2;b0 0 5;", 3, 1);
        samples("fa;b0 2 -5;b0 0 -2;", -2, 1);
        samples("fa;b0 2 -5;b0 1 -2;", -3, 1);
        samples("fa;b0 2 -50;b0 0 -50;", -50, 1);
        samples("fa;b0 2 -5;b0 0 5;", 0, 1);
        samples("fa;b0 3 0;", 1, 1);
        samples("fa;b0 1 0;", -1, 1);
        samples("fa;b0 2 0;", 0, 1);
        samples("fa;b0 0 0;", 0, 1);
        C.about("QUERIES: first a, then b, then c");
        samples("fa+b;b0 4 1;", 0, 1, 1, 1);
        samples("f2a+b;b0 4 1;", 0, 1, 1, 1);
        samples("fa+2b;b0 4 1;", 0, 1, 1, 2);
        samples("n3;fa+b+3c;b0 4 1;", 0, 1, 0, 1, 1, 3);
        samples("n3;fa+b+c;fa-b;b0 4 1;b1 4 1;", 0, 1, -1, 1, 2, 1);
        C.about("QUERIES: a number that a has at some point, not one that leaves no room");
        samples("fa;fb;fa+b;b0 2 0;b1 3 0;b2 0 1;", 0, 1, 1, 1);
        samples("fa-b;fa+b;b0 3 0;b1 1 1;fb;b2 3 0;", 1, 2, 1, 3);
        C.about("QUERIES: long fractions are exact");
        samples("n3;f3a;f3a-3b;f3b-2c;b0 4 1;b1 4 -50;b2 4 49;", 1, 3, 17, 1, 1, 1);
        samples("n3;f3a;f3b-a;f3c-b;b0 4 1;b1 4 0;b2 4 0;", 1, 3, 1, 9, 1, 27);
        samples("n3;f3a;f3b-2a;f3c-2b;b0 4 -50;b1 4 0;b2 4 0;", -50, 3, -100, 9, -200, 27);
    }

    private static void value() {
        C.about("21: BAD if there is no such form");
        BoundProofs x = start("n3;f3a;f3b-a;f3c-b;f2a-3b+c;b0 4 1;b1 4 0;b2 4 0;");
        for (int f = -2; f <= 9; f++) {
            C.due("value(" + f + ")", x.value(f), f >= 0 && f < 4 ? 1 : BAD);
        }
        for (int e : EXTREMES) {
            C.due("value(" + e + ")", x.value(e), BAD);
        }
        C.about("21: upper() and lower() return the value then");
        C.number(x, 10, 27);
        C.due("value(0)", x.value(0), 1);
        C.number(x, 1, 1);
        C.due("value(2)", x.value(2), 1);
        C.number(x, 0, 1);
        C.about("21: STATE if all constraints together are not satisfiable; BAD rather than STATE");
        x.asserts(0, 3, 1);
        for (int f = -2; f <= 9; f++) {
            C.due("value(" + f + ")", x.value(f), f >= 0 && f < 4 ? STATE : BAD);
        }
        C.number(x, 0, 1);
        C.about("21: without constraints");
        x = start("fa+b;");
        C.due("value(0)", x.value(0), 1);
        C.number(x, 0, 1);
        C.due("value(0) without forms", start("").value(0), BAD);
    }

    private static void corner() {
        C.about("22: 1, or NONE if there is no vertex k; BAD if k is negative or there is no such variable");
        for (int n = 1; n <= 3; n++) {
            StringBuilder text = new StringBuilder("n" + n + ";");
            for (int v = 0; v < n; v++) {
                text.append("f").append("abc".charAt(v)).append(";b").append(v).append(" 2 0;b").append(v).append(" 0 1;");
            }
            BoundProofs x = start(text.toString());
            C.due("count(4)", x.count(4), 1 << n);
            for (int k = -2; k <= 9; k++) {
                for (int v = -2; v <= 4; v++) {
                    boolean allowed = k >= 0 && v >= 0 && v < n;
                    C.due("corner(" + k + ", " + v + ")", x.corner(k, v), !allowed ? BAD : k < 1 << n ? 1 : NONE);
                    if (allowed && k < 1 << n) {
                        C.number(x, k >> n - 1 - v & 1, 1);
                    }
                }
            }
            for (int e : EXTREMES) {
                C.due("corner(" + e + ", 0)", x.corner(e, 0), e < 0 ? BAD : NONE);
                C.due("corner(0, " + e + ")", x.corner(0, e), BAD);
                C.due("corner(" + e + ", " + e + ")", x.corner(e, e), BAD);
            }
        }
        C.about("22: BAD rather than NONE where there are no vertices");
        BoundProofs x = start("fa;b0 0 1;");
        C.due("corner(0, 0)", x.corner(0, 0), NONE);
        C.due("corner(0, 2)", x.corner(0, 2), BAD);
        C.due("corner(-1, 0)", x.corner(-1, 0), BAD);
        C.due("corner(MAX, 1)", x.corner(MAX, 1), NONE);
    }

    private static void corners(String text, long... points) {
        BoundProofs x = start(text);
        int n = x.count(0);
        int size = points.length / (2 * n);
        C.due("count(4)", x.count(4), size);
        for (int i = 0; i < size * n; i++) {
            C.due("corner(" + i / n + ", " + i % n + ")", x.corner(i / n, i % n), 1);
            C.number(x, points[2 * i], points[2 * i + 1]);
        }
        C.due("corner(" + size + ", 0)", x.corner(size, 0), NONE);
    }

    private static void vertices() {
        C.about("QUERIES: strict relations are taken as not strict");
        corners("n1;fa;b0 1 1;", 1, 1);
        corners("n1;fa;b0 1 1;b0 3 1;", 1, 1);
        corners("fa;fb;b0 1 1;b1 3 2;", 1, 1, 2, 1);
        corners("fa;fb;fa+b;b0 3 0;b1 3 0;b2 1 0;", 0, 1, 0, 1);
        corners("fa;fb;fa+b;b0 3 0;b1 3 0;b2 0 -1;");
        C.about("QUERIES: relation 4 stays equal");
        corners("n1;fa;b0 4 1;b0 4 2;");
        corners("n1;fa;b0 4 1;b0 1 1;", 1, 1);
        corners("fa;fb;b0 4 1;b1 0 3;b1 2 2;", 1, 1, 2, 1, 1, 1, 3, 1);
        C.about("QUERIES: it is the only point at which those forms have these values");
        corners("");
        corners("fa;b0 4 1;");
        corners("fa;f2a;b0 4 1;b1 4 2;");
        corners("n3;fa;fb;b0 4 1;b1 4 2;");
        corners("n3;fa;fb;fa+b;b0 4 1;b1 4 2;b2 4 3;");
        corners("n3;fa;fb;fa+c;b0 4 1;b1 4 2;b2 4 3;", 1, 1, 2, 1, 2, 1);
        C.about("QUERIES: a point that many constraints meet is one vertex");
        corners("fa;fb;fa+b;fa-b;b0 2 0;b1 2 0;b2 2 0;b3 0 0;", 0, 1, 0, 1);
        corners("n1;fa;f2a;b0 0 1;b0 0 1;b1 0 2;", 1, 1);
        C.about("QUERIES: vertices are ordered by a, then b, then c");
        corners("fa+b;fa-b;b0 0 1;b0 2 -1;b1 0 1;b1 2 -1;", -1, 1, 0, 1, 0, 1, -1, 1, 0, 1, 1, 1, 1, 1, 0, 1);
        corners("f2a;f3a;fb;b0 2 -1;b1 0 -1;b2 4 0;", -1, 2, 0, 1, -1, 3, 0, 1);
        corners("n3;fa;fb;fc;b0 4 0;b1 4 0;f2c;b3 2 -1;f3c;b4 0 1;", 0, 1, 0, 1, -1, 2, 0, 1, 0, 1, 1, 3);
        C.about("QUERIES: vertices of extreme numbers");
        corners("fa;fb;b0 4 -50;b1 4 50;", -50, 1, 50, 1);
        corners("n3;f3a;f3b;f3c;b0 4 -50;b1 4 50;b2 4 1;", -50, 3, 50, 3, 1, 3);
        corners("n3;f3a+2b+3c;f2a-3b+3c;f3a+3b-2c;b0 4 50;b1 4 -49;b2 4 47;", -41, 31, 622, 31, 143, 31);
    }

    private static void whole() {
        C.about("23: 1, or NONE if there is no solution k; BAD if k is negative or there is no such variable");
        int size = 1;
        for (int n = 1; n <= 3; n++) {
            size *= 9;
            BoundProofs x = start("n" + n + ";");
            for (int k : new int[] {MIN, -2, -1, 0, 1, 7, 8, 9, 80, 81, 728, 729, 730, MAX - 1, MAX}) {
                for (int v = -2; v <= 4; v++) {
                    boolean allowed = k >= 0 && v >= 0 && v < n;
                    C.due("whole(" + k + ", " + v + ")", x.whole(k, v), !allowed ? BAD : k < size ? 1 : NONE);
                    if (allowed && k < size) {
                        int digit = v == n - 1 ? k % 9 : v == n - 2 ? k / 9 % 9 : k / 81;
                        C.due("told()", x.told(), digit - 4);
                    }
                }
            }
            for (int e : EXTREMES) {
                C.due("whole(0, " + e + ")", x.whole(0, e), BAD);
                C.due("whole(" + e + ", 0)", x.whole(e, 0), e < 0 ? BAD : e < size ? 1 : NONE);
            }
        }
        C.about("23: BAD rather than NONE where there are no solutions");
        BoundProofs x = start("fa;b0 2 5;");
        C.due("whole(0, 0)", x.whole(0, 0), NONE);
        C.due("whole(0, 2)", x.whole(0, 2), BAD);
        C.due("whole(0, -1)", x.whole(0, -1), BAD);
        C.due("whole(-1, 0)", x.whole(-1, 0), BAD);
        C.due("told()", x.told(), 0);
        C.about("QUERIES: integers from -4 to 4");
        C.due("4", start("n1;fa;b0 2 4;").count(5), 1);
        C.due("greater than 4", start("n1;fa;b0 3 4;").count(5), 0);
        C.due("-4", start("n1;fa;b0 0 -4;").count(5), 1);
        C.due("less than -4", start("n1;fa;b0 1 -4;").count(5), 0);
        C.due("5", start("n1;fa;b0 4 5;").count(5), 0);
        C.due("no integer", start("n1;f2a;b0 4 1;").count(5), 0);
        C.due("b at 4", start("fa;fb;b0 4 4;b1 2 4;").count(5), 1);
        C.due("c at -4", start("n3;fa+b+c;b0 0 -12;").count(5), 1);
        C.due("beyond all", start("n3;fa+b+c;b0 1 -12;").count(5), 0);
    }

    private static void latestNumber() {
        C.about("24, 25: 0 and 1 if there was no such number yet");
        BoundProofs x = start("fa;fb;b0 0 3;");
        C.number(x, 0, 1);
        C.due("met()", x.met(), 1);
        C.due("whole(0, 0)", x.whole(0, 0), 1);
        C.due("range(0, 0)", x.range(0, 0), NONE);
        C.due("corner(0, 0)", x.corner(0, 0), NONE);
        C.due("sample(2)", x.sample(2), BAD);
        C.number(x, 0, 1);
        C.about("24, 25: the latest of relief(), range(), sample(), value() and corner()");
        x = start("f3a;fb;fa;b0 0 5;b1 4 -7;b0 2 5;");
        C.due("range(2, 1)", x.range(2, 1), 1);
        C.number(x, 5, 3);
        C.due("sample(1)", x.sample(1), 1);
        C.number(x, -7, 1);
        C.due("value(0)", x.value(0), 1);
        C.number(x, 5, 1);
        C.due("corner(0, 0)", x.corner(0, 0), 1);
        C.number(x, 5, 3);
        C.due("relief(0)", x.relief(0), 1);
        C.number(x, 0, 1);
        C.due("corner(0, 1)", x.corner(0, 1), 1);
        C.about("24, 25: calls that returned an error or NONE do not count");
        C.due("corner(1, 0)", x.corner(1, 0), NONE);
        C.due("corner(-1, 0)", x.corner(-1, 0), BAD);
        C.due("range(9, 0)", x.range(9, 0), BAD);
        C.due("value(3)", x.value(3), BAD);
        C.due("sample(2)", x.sample(2), BAD);
        C.due("relief(3)", x.relief(3), BAD);
        C.number(x, -7, 1);
        x.asserts(1, 3, -7);
        C.due("range(0, 0)", x.range(0, 0), STATE);
        C.due("sample(0)", x.sample(0), STATE);
        C.due("value(0)", x.value(0), STATE);
        C.due("relief(0)", x.relief(0), NONE);
        C.number(x, -7, 1);
        C.about("24, 25: other calls do not change it");
        x.core();
        x.proof(0);
        x.spared(1);
        x.follows(0, 0, 0);
        x.since(0, 0, 0);
        x.why(0, 0, 0);
        x.count(4);
        x.whole(0, 0);
        x.keep(0);
        x.form(1, 0, 0);
        x.asserts(0, 0, 0);
        x.level();
        x.withdraws(1);
        x.back(0);
        Checks.tell(x, "n1;");
        C.number(x, -7, 1);
        C.due("upper() again", x.upper(), -7);
    }

    private static void lowestTerms() {
        C.about("24: in lowest terms with a positive denominator (0 is 0/1)");
        ranges("f2a;fa;b0 4 2;", 1, 0, 1, 1, 1);
        ranges("f2a;f3a;b0 4 4;", 1, 0, 1, 6, 1);
        ranges("f3a;f2a;b0 4 3;", 1, 1, 1, 2, 1);
        ranges("f-3a;fa;b0 4 1;", 1, 0, 1, -1, 3);
        ranges("f-2a;fa;b0 4 -3;", 1, 1, 1, 3, 2);
        ranges("f-2a;fa;b0 4 0;", 1, 1, 1, 0, 1);
        ranges("f-3a;fa;b0 2 0;", 1, 1, 1, 0, 1);
        relieves("f2a;f2a;b0 0 0;b1 2 1;", 0, 1, 1, 1);
        relieves("f2a;f3a;b0 0 0;b1 2 2;", 0, 1, 4, 3);
        relieves("f3a;f2a;b0 0 0;b1 2 2;", 0, 1, 3, 1);
        samples("f-2a;f-3b;b0 4 3;b1 4 -3;", -3, 2, 1, 1);
        samples("n3;f-3c;b0 4 2;", 0, 1, 0, 1, -2, 3);
        corners("f-2a;f-2b;b0 4 4;b1 4 -5;", -2, 1, 5, 2);
        corners("f-2a;f3b;b0 4 0;b1 4 0;", 0, 1, 0, 1);
        BoundProofs x = start("f2a;f2b;fa+b;fa-b;b0 4 1;b1 4 1;");
        C.due("value(2)", x.value(2), 1);
        C.number(x, 1, 1);
        C.due("value(3)", x.value(3), 1);
        C.number(x, 0, 1);
    }

    private static void latestTold() {
        C.about("26: 0 if there was no such call yet");
        BoundProofs x = start("f3a;f2a;b0 0 1;b1 2 1;");
        C.due("told()", x.told(), 0);
        C.due("core()", x.core(), 3);
        C.due("relief(0)", x.relief(0), 1);
        C.due("told()", x.told(), 0);
        C.about("26: the multiplier or number that the latest call of proof() or whole() has found");
        C.due("proof(0)", x.proof(0), 1);
        C.due("told()", x.told(), 2);
        C.due("told() again", x.told(), 2);
        C.due("proof(1)", x.proof(1), 1);
        C.due("told()", x.told(), 3);
        C.about("26: calls that returned an error or NONE do not count");
        C.due("proof(2)", x.proof(2), BAD);
        C.due("proof(-1)", x.proof(-1), BAD);
        C.due("whole(0, 0)", x.whole(0, 0), NONE);
        C.due("whole(-1, 0)", x.whole(-1, 0), BAD);
        C.due("whole(0, 2)", x.whole(0, 2), BAD);
        C.due("told()", x.told(), 3);
        C.about("26: other calls do not change it");
        x.relief(0);
        x.spared(0);
        x.follows(0, 0, 0);
        x.count(5);
        x.keep(0);
        x.level();
        x.withdraws(1);
        x.back(0);
        x.clear();
        C.due("told()", x.told(), 3);
        Checks.tell(x, "fa;b0 2 -3;");
        C.due("told()", x.told(), 3);
        C.due("proof(0)", x.proof(0), STATE);
        C.due("told()", x.told(), 3);
        C.due("whole(0, 0)", x.whole(0, 0), 1);
        C.due("told()", x.told(), -3);
    }
}
