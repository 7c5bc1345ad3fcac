/** A test for each promise: ordinary inputs, the edges that the document names, and wrong inputs. */
public final class PromisesTest {
    private static final int BAD = BoundProofs.BAD;
    private static final int STATE = BoundProofs.STATE;
    private static final int FULL = BoundProofs.FULL;
    private static final int NONE = BoundProofs.NONE;
    private static final int MIN = Integer.MIN_VALUE;
    private static final int MAX = Integer.MAX_VALUE;
    private static final Checks C = new Checks();

    public static void main(String[] args) {
        examples();
        newObject();
        type();
        clear();
        tells();
        textErrors();
        form();
        coefficient();
        asserts();
        bound();
        level();
        withdraws();
        met();
        core();
        proof();
        certificates();
        relief();
        spared();
        range();
        follows();
        since();
        why();
        sample();
        value();
        corner();
        whole();
        results();
        keepAndBack();
        count();
        errorsChangeNothing();
        C.end();
    }

    private static BoundProofs start(String about, String text) {
        C.about(about + " [" + text + "]");
        return Checks.of(text);
    }

    private static void examples() {
        C.about("example 1");
        BoundProofs x = new BoundProofs();
        C.due("form", x.form(2, 1, 0), 0);
        C.due("form", x.form(0, 1, 0), 1);
        C.due("asserts", x.asserts(0, 1, 3), 0);
        C.due("asserts", x.asserts(1, 2, 1), 1);
        C.due("range(0, 0)", x.range(0, 0), -9);
        C.due("range(1, 1)", x.range(1, 1), -9);
        C.due("upper", x.upper(), 0);
        C.due("sample(0)", x.sample(0), 1);
        C.number(x, 0, 1);
        C.due("asserts", x.asserts(0, 3, 7), 2);
        C.due("core", x.core(), 5);
        C.due("proof(0)", x.proof(0), 1);
        C.due("told", x.told(), 1);
        C.due("relief(2)", x.relief(2), 0);
        C.due("spared(1)", x.spared(1), 1);

        C.about("example 2");
        x = new BoundProofs();
        C.due("tells", Checks.tell(x, "n1;f2a;b0 4 3"), -23);
        C.due("clear", x.clear(), 13);
        C.due("count(1)", x.count(1), 0);

        C.about("example 3");
        x = new BoundProofs();
        C.due("form", x.form(1, -1, 0), 0);
        C.due("form", x.form(0, 0, 1), -1);
        C.due("asserts", x.asserts(0, 4, 51), -1);
        C.due("level", x.level(), 1);
        C.due("asserts", x.asserts(0, 4, 2), 0);
        C.due("follows", x.follows(0, 2, 1), 1);
        C.due("since", x.since(0, 0, 2), 1);
        C.due("why", x.why(0, 3, 1), 1);
        C.due("withdraws", x.withdraws(1), 0);
        C.due("withdraws", x.withdraws(1), -1);
        C.due("whole(3, 1)", x.whole(3, 1), 1);
        C.due("told", x.told(), -1);
        C.due("count(5)", x.count(5), 81);
        C.due("corner", x.corner(0, 0), -9);
        C.due("back", x.back(0), -2);
        C.due("proof", x.proof(0), -1);

        C.about("example 4");
        x = new BoundProofs();
        C.due("tells", Checks.tell(x, "n1;fa;b0 1 1;"), 3);
        C.due("range(0, 1)", x.range(0, 1), 0);
        C.due("upper", x.upper(), 1);
    }

    private static void newObject() {
        C.about("1: a new object");
        BoundProofs x = new BoundProofs();
        int[] counts = {2, 0, 0, 0, 0, 81, 0};
        for (int what = 0; what < counts.length; what++) {
            C.due("count(" + what + ")", x.count(what), counts[what]);
        }
        C.number(x, 0, 1);
        C.due("told()", x.told(), 0);
        C.due("back(0)", x.back(0), STATE);
        C.due("back(1)", x.back(1), STATE);
        C.due("met()", x.met(), 1);
        C.due("BAD", BAD, -1);
        C.due("STATE", STATE, -2);
        C.due("FULL", FULL, -3);
        C.due("NONE", NONE, -9);
    }

    private static void type() {
        C.about("2: type");
        BoundProofs x = new BoundProofs();
        C.due("type(0)", x.type(0), 1);
        C.due("type(255)", x.type(255), 2);
        for (int letter : new int[] {-1, 256, MIN, MAX}) {
            C.due("type(" + letter + ")", x.type(letter), BAD);
        }
        C.due("count(6)", x.count(6), 2);
        for (int i = 3; i <= 90; i++) {
            C.due("type(32)", x.type(32), i);
        }
        C.due("type(32) in a full text", x.type(32), FULL);
        C.due("type(256) in a full text", x.type(256), BAD);
        C.due("count(6)", x.count(6), 90);
    }

    private static void clear() {
        C.about("3: clear");
        BoundProofs x = new BoundProofs();
        C.due("clear()", x.clear(), 0);
        x.type('f');
        x.type('a');
        C.due("clear()", x.clear(), 2);
        C.due("count(6)", x.count(6), 0);
        C.due("clear()", x.clear(), 0);
        C.due("type(59)", x.type(';'), 1);
        C.due("tells()", x.tells(), -10);
    }

    private static void tells() {
        C.about("4: tells");
        BoundProofs x = new BoundProofs();
        C.due("tells() of the empty text", x.tells(), 0);
        C.due("tells() of spaces", Checks.tell(x, "   "), 0);
        C.due("count(0)", x.count(0), 2);
        C.due("all signs", Checks.tell(x, " n 3 ; f + 2 a - b + c + b ; f-3c;b 0 4 - 50;b1 3 0;b 1 0 50 ; "), 6);
        C.due("count(0)", x.count(0), 3);
        C.due("count(1)", x.count(1), 2);
        C.due("count(2)", x.count(2), 3);
        C.due("count(6)", x.count(6), 0);
        int[] coefficients = {12, 10, 11, 10, 10, 7};
        for (int i = 0; i < 6; i++) {
            C.due("coefficient", x.coefficient(i / 3, i % 3), coefficients[i]);
        }
        int[] bounds = {0, 4, 50, 1, 3, 100, 1, 0, 150};
        for (int i = 0; i < 9; i++) {
            C.due("bound", x.bound(i / 3, i % 3), bounds[i]);
        }
        C.due("minus zero", Checks.tell(x, "fa;b0 2 -0;"), 2);
        C.due("bound(0, 2)", x.bound(0, 2), 100);
        C.due("sums", Checks.tell(x, "f3a+3a-3a+b-b;"), 1);
        C.due("coefficient(0, 0)", x.coefficient(0, 0), 13);
        C.due("coefficient(0, 1)", x.coefficient(0, 1), 10);
        C.due("no n means 2", x.count(0), 2);
        C.due("a form without constraints", x.count(2), 0);

        x.asserts(0, 0, 1);
        x.level();
        x.level();
        x.keep(0);
        x.keep(1);
        C.due("an error", Checks.tell(x, "n1;fa;b"), -17);
        C.due("then forms stay", x.count(1), 1);
        C.due("then constraints stay", x.count(2), 1);
        C.due("then levels stay", x.count(3), 2);
        C.due("then the text stays", x.count(6), 7);
        C.due("then what is saved stays", x.back(0), 1);
        C.due("then n stays", x.count(0), 2);
        C.due("no error", Checks.tell(x, "n1;fa;"), 2);
        C.due("then there are no levels", x.count(3), 0);
        C.due("then nothing is saved", x.back(0), STATE);
        C.due("then nothing is saved", x.back(1), STATE);
        C.due("then constraints are replaced", x.count(2), 0);

        for (String none : new String[] {"", "  "}) {
            Checks.tell(x, "n3;fa;b0 0 1;");
            x.level();
            x.keep(1);
            C.due("a text without items", Checks.tell(x, none), 0);
            int[] counts = {2, 0, 0, 0, 0, 81, 0};
            for (int what = 0; what < counts.length; what++) {
                C.due("then count(" + what + ")", x.count(what), counts[what]);
            }
            C.due("then nothing is saved", x.back(1), STATE);
        }

        C.due("the number 1 in a term", Checks.tell(x, "f1a-1b;"), 1);
        C.due("coefficient(0, 1)", x.coefficient(0, 1), 9);

        String eight = "fa;fa;fa;fa;fa;fa;fa;fa;";
        C.due("eight forms", Checks.tell(x, eight), 8);
        C.due("ten constraints", Checks.tell(x, "fa;b0 0 1;b0 0 1;b0 0 1;b0 0 1;b0 0 1;b0 0 1;b0 0 1;b0 0 1;b0 0 1;b0 0 1;"), 11);
        C.due("count(2)", x.count(2), 10);
        StringBuilder full = new StringBuilder("fa");
        while (full.length() < 89) {
            full.append(' ');
        }
        C.due("90 characters", Checks.tell(x, full + ";"), 1);
        C.due("90 characters without an end", Checks.tell(x, full + " "), -100);
        C.due("90 characters, the last a digit", Checks.tell(x, full.substring(0, 80) + ";b0 0   50"), -100);
        C.due("a longer text that is gone", Checks.tell(x, "fa;b0 0 555"), -18);
        C.due("leaves no digit behind the end", Checks.tell(x, "fa;b0 0 5"), -19);
    }

    private static void fails(String text, int position) {
        C.about("4: text errors");
        BoundProofs x = new BoundProofs();
        C.due("tells() of \"" + text + "\"", Checks.tell(x, text), -10 - position);
        C.due("characters of \"" + text + "\"", x.count(6), text.length());
    }

    private static void textErrors() {
        fails(";", 0);
        fails("a;", 0);
        fails("x", 0);
        fails("  5", 2);
        fails("\tfa;", 0);
        fails("fa\t;", 2);
        fails("fa;" + (char) 160, 3);
        fails("N1;", 0);
        fails("n", 1);
        fails("n ", 2);
        fails("n0;", 1);
        fails("n4;", 1);
        fails("n 01;", 2);
        fails("n12;", 1);
        fails("n3", 2);
        fails("n3 f", 3);
        fails("n;", 1);
        fails("n+1;", 1);
        fails("n1;n1;", 3);
        fails("fa; n1;", 4);
        fails("f", 1);
        fails("f;", 1);
        fails("f+;", 2);
        fails("f2;", 2);
        fails("f2", 2);
        fails("f0a;", 1);
        fails("f4a;", 1);
        fails("f02a;", 1);
        fails("f00a;", 1);
        fails("f2 2a;", 3);
        fails("f--a;", 2);
        fails("f+-a;", 2);
        fails("fab;", 2);
        fails("fa2b;", 2);
        fails("fa+;", 3);
        fails("fa-", 3);
        fails("fc;", 1);
        fails("n1;fb;", 4);
        fails("n1;fa+b;", 6);
        fails("fa-a;", 4);
        fails("fa-a ;", 5);
        fails("f3a+b+a;", 7);
        fails("f-3a-b-a;", 8);
        fails("f3a+a", 5);
        fails("fn;", 1);
        fails("fa;fa;fa;fa;fa;fa;fa;fa; fa;", 25);
        fails("b0 0 0;", 1);
        fails("b", 1);
        fails("fa;b1 0 0;", 4);
        fails("fa;b 00 0 0;", 5);
        fails("fa;b0 5 0;", 6);
        fails("fa;b0 04 0;", 6);
        fails("fa;b00 0;", 4);
        fails("fa;b-0 0 0;", 4);
        fails("fa;b0 0 51;", 8);
        fails("fa;b0 0 -51;", 9);
        fails("fa;b0 0 - 51;", 10);
        fails("fa;b0 0 +5;", 8);
        fails("fa;b0 0 --5;", 9);
        fails("fa;b0 0 05;", 8);
        fails("fa;b0 0 -00;", 9);
        fails("fa;b0 0 5 5;", 10);
        fails("fa;b0 0;", 7);
        fails("fa;b0;", 5);
        fails("fa;b;", 4);
        fails("fa;b0 0 -;", 9);
        fails("fa;b0 0 5", 9);
        fails("fa;b0 0 5  ", 11);
        fails("fa;b0 0 99999999999999999999999999999999999999;", 8);
        fails("fa;b0 0 4294967296;", 8);
        fails("n4294967297;", 1);
        fails("fa;b0 0 5;fb", 12);
        fails("fa;b0 0 1;b0 0 1;b0 0 1;b0 0 1;b0 0 1;b0 0 1;b0 0 1;b0 0 1;b0 0 1;b0 0 1;b0 0 1;", 73);
        fails("b0 0 1;fa;", 1);
        fails("fa;bfa;", 4);
        fails("fa;b0 fa;", 6);
        fails("fa;b0 0 fa;", 8);
        fails("fa;b0 0 b0 0 1;", 8);
        fails("fa;b0 0 1 fa;", 10);
        fails("nfa;", 1);
        fails("n1 fa;", 3);
        fails("ffa;", 1);
        fails("fa fb;", 3);
        fails("fa;;", 3);
    }

    private static void form() {
        C.about("5: form");
        BoundProofs x = new BoundProofs();
        C.due("all 0", x.form(0, 0, 0), BAD);
        for (int c : new int[] {4, -4, MIN, MAX}) {
            C.due("a is " + c, x.form(c, 0, 0), BAD);
            C.due("b is " + c, x.form(1, c, 0), BAD);
            C.due("c is " + c, x.form(1, 0, c), BAD);
        }
        C.due("c does not exist", x.form(1, 1, 1), BAD);
        C.due("count(1)", x.count(1), 0);
        for (int f = 0; f < 8; f++) {
            C.due("form(-3, 3, 0)", x.form(-3, 3, 0), f);
        }
        C.due("a ninth form", x.form(1, 0, 0), FULL);
        C.due("a wrong ninth form", x.form(0, 0, 0), BAD);
        C.due("a wrong ninth form", x.form(1, 0, 2), BAD);
        C.due("count(1)", x.count(1), 8);
        x = start("5: form", "n1;");
        C.due("b does not exist", x.form(1, 1, 0), BAD);
        C.due("c does not exist", x.form(1, 0, -1), BAD);
        C.due("form(3, 0, 0)", x.form(3, 0, 0), 0);
        x = start("5: form", "n3;");
        C.due("form(0, 0, -3)", x.form(0, 0, -3), 0);
        C.due("form(3, -3, 3)", x.form(3, -3, 3), 1);
    }

    private static void coefficient() {
        BoundProofs x = start("6: coefficient", "f3a-2b;fb;");
        C.due("(0, 0)", x.coefficient(0, 0), 13);
        C.due("(0, 1)", x.coefficient(0, 1), 8);
        C.due("(1, 0)", x.coefficient(1, 0), 10);
        C.due("no variable", x.coefficient(0, 2), BAD);
        C.due("no variable", x.coefficient(0, -1), BAD);
        C.due("no form", x.coefficient(2, 0), BAD);
        C.due("no form", x.coefficient(-1, 0), BAD);
        C.due("neither", x.coefficient(MAX, MIN), BAD);
    }

    private static void asserts() {
        BoundProofs x = start("7: asserts", "fa;fb;");
        int[][] bad = {{2, 0, 0}, {-1, 0, 0}, {0, 5, 0}, {0, -1, 0}, {0, 0, 51}, {0, 0, -51}, {MAX, MIN, MAX}};
        for (int[] b : bad) {
            C.due("asserts", x.asserts(b[0], b[1], b[2]), BAD);
        }
        C.due("count(2)", x.count(2), 0);
        for (int k = 0; k < 10; k++) {
            C.due("asserts", x.asserts(k % 2, 2 * (k % 2), k < 5 ? 50 : -50), k);
        }
        C.due("an eleventh one", x.asserts(0, 0, 0), FULL);
        for (int[] b : bad) {
            C.due("a wrong eleventh one", x.asserts(b[0], b[1], b[2]), BAD);
        }
        C.due("count(2)", x.count(2), 10);
    }

    private static void bound() {
        BoundProofs x = start("8: bound", "fa;fb;b1 3 -50;");
        C.due("(0, 0)", x.bound(0, 0), 1);
        C.due("(0, 1)", x.bound(0, 1), 3);
        C.due("(0, 2)", x.bound(0, 2), 50);
        C.due("(0, 3)", x.bound(0, 3), BAD);
        C.due("(0, -1)", x.bound(0, -1), BAD);
        C.due("(1, 0)", x.bound(1, 0), BAD);
        C.due("(-1, 0)", x.bound(-1, 0), BAD);
    }

    private static void level() {
        C.about("9: level");
        BoundProofs x = new BoundProofs();
        for (int i = 1; i <= 4; i++) {
            C.due("level()", x.level(), i);
        }
        C.due("a fifth level", x.level(), FULL);
        C.due("count(3)", x.count(3), 4);
    }

    private static void withdraws() {
        BoundProofs x = start("10: withdraws", "fa;b0 0 1;");
        C.due("no levels", x.withdraws(1), BAD);
        C.due("withdraws(0)", x.withdraws(0), BAD);
        x.level();
        x.asserts(0, 0, 2);
        x.level();
        x.asserts(0, 2, 3);
        x.level();
        x.level();
        x.form(1, 1, 0);
        x.asserts(1, 0, 4);
        for (int n : new int[] {0, -1, 5, MIN, MAX}) {
            C.due("withdraws(" + n + ")", x.withdraws(n), BAD);
        }
        C.due("one", x.withdraws(1), 3);
        C.due("forms stay", x.count(1), 2);
        C.due("met()", x.met(), 0);
        C.due("two", x.withdraws(2), 2);
        C.due("met()", x.met(), 1);
        C.due("count(3)", x.count(3), 1);
        C.due("added again", x.asserts(0, 1, 3), 2);
        C.due("all", x.withdraws(1), 1);
        C.due("count(3)", x.count(3), 0);
        C.due("bound(0, 2)", x.bound(0, 2), 101);
        C.due("bound(1, 2)", x.bound(1, 2), BAD);
    }

    private static void met() {
        String[] yes = {"", "fa;", "fa;b0 0 1;b0 2 1;", "fa;b0 1 1;b0 3 0;", "fa;fb;fa+b;b0 0 1;b1 0 1;b2 4 2;",
            "n3;fa+b;fb+c;fa-c;b0 4 1;b1 4 1;b2 4 0;", "fa;f2a;b0 2 1;b1 0 2;",
            "n3;fb;fc;b0 0 -1;b1 2 1;", "n3;fa+b;fa+c;b0 0 -1;b1 2 1;", "n3;fa+b;fb;fa+c;fc;b0 0 -1;b1 2 1;b2 2 -9;b3 0 -5;",
            "n3;fa;fb;f2a;fc;b0 0 1;b1 0 1;b2 0 1;b3 2 9;"};
        String[] no = {"fa;b0 1 1;b0 2 1;", "fa;b0 1 1;b0 3 1;", "fa;b0 4 1;b0 4 2;", "fa;b0 4 1;b0 3 1;",
            "n3;fa+b-c;fa+b+c;fa+b;b0 0 1;b1 1 1;b2 4 1;", "n3;fb+c;f2b+2c;b0 0 1;b1 3 2;", "n3;fb;fc;fb-c;b0 0 1;b1 2 1;b2 3 0;",
            "fa;fb;fa+b;b0 0 1;b1 1 1;b2 4 2;", "n3;fa+b;fb+c;fa-c;b0 4 1;b1 4 1;b2 4 1;",
            "n3;fa;fb;fc;fa+b+c;b0 0 1;b1 0 1;b2 1 1;b3 2 3;", "n1;fa;f3a;b0 3 0;b1 1 0;", "fa;f-2a;b0 0 0;b1 1 0;"};
        for (String text : yes) {
            C.due("met()", start("11: met", text).met(), 1);
        }
        for (String text : no) {
            C.due("met()", start("11: met", text).met(), 0);
        }
    }

    private static void core() {
        C.due("none", start("12: core", "").core(), 0);
        C.due("satisfiable", start("12: core", "fa;b0 0 1;").core(), 0);
        C.due("later ones go first", start("12: core", "fa;b0 0 1;b0 2 2;b0 4 2;b0 1 0;").core(), 3);
        C.due("(1, 3) is left", start("12: core", "fa;b0 0 5;b0 1 2;b0 0 3;b0 2 2;b0 3 9;").core(), 10);
        C.due("four", start("12: core", "n3;fa;fb;fc;fa+b+c;b0 0 1;b1 0 1;b2 1 1;b3 2 3;").core(), 15);
        BoundProofs x = start("12: core", "fa;b0 0 0;b0 2 1;");
        C.due("unsatisfiable", x.core(), 3);
        C.number(x, 0, 1);
        C.due("told()", x.told(), 0);
    }

    private static void proof() {
        BoundProofs x = start("13: proof", "f2a;f3a;fb;b2 0 1;b0 0 1;b1 2 2;");
        int[] in = {0, 1, 1};
        int[] multipliers = {0, 3, 2};
        for (int k = 2; k >= 0; k--) {
            C.due("proof(" + k + ")", x.proof(k), in[k]);
            C.due("told()", x.told(), multipliers[k]);
        }
        C.due("proof(1)", x.proof(1), 1);
        C.due("proof(3)", x.proof(3), BAD);
        C.due("proof(-1)", x.proof(-1), BAD);
        C.due("told() is left", x.told(), 3);
        x = start("13: proof", "fa;b0 0 1;");
        C.due("satisfiable", x.proof(0), STATE);
        C.due("satisfiable, but there is no such constraint", x.proof(1), BAD);
        C.due("told()", x.told(), 0);
        x = start("13: proof", "fa;f2a;b0 4 1;b1 4 3;");
        C.due("proof(0)", x.proof(0), 1);
        C.due("told()", x.told(), 2);
        C.due("proof(1)", x.proof(1), 1);
        C.due("told()", x.told(), -1);
    }

    /** The document's conditions on the certificate, on many cores. */
    private static void certificates() {
        String[] texts = {"fa;f3a;b0 4 1;b1 4 2;", "n3;f3a+2b;f2b-3c;f3a+3c;b0 4 1;b1 4 2;b2 4 3;",
            "n3;f3a-b;f2b-3c;f-a+3c;f3a+b+c;b0 1 1;b1 0 -2;b2 4 3;b3 3 50;b3 1 -20;", "f3a+2b;f-2a+b;f-a-3b;b0 0 1;b1 1 -2;b2 0 -9;",
            "fa;b0 1 0;b0 2 0;", "n3;f3a-2b+c;fa+3b;f2b-3c;f-3a+2b-c+3c;b0 0 -9;b1 4 -2;b2 1 6;b3 0 -6;",
            "n3;f3a-2b+c;fa+3b;f2b-3c;f-3a+2b-c+3c;b0 2 1;b1 4 -9;b2 2 9;b3 2 -1;"};
        for (String text : texts) {
            BoundProofs x = start("13: certificate", text);
            int core = x.core();
            long[] sum = new long[4];
            long common = 0;
            boolean strict = false;
            C.due("met()", x.met(), 0);
            for (int k = 0; k < x.count(2); k++) {
                C.due("proof(" + k + ")", x.proof(k), core >> k & 1);
                long by = x.told();
                int sort = x.bound(k, 1);
                C.due("the sign of " + k, (core >> k & 1) == 0 ? (by == 0 ? 1 : 0) : (by > 0 || sort == 4 && by != 0 ? 1 : 0), 1);
                strict |= by != 0 && (sort == 1 || sort == 3);
                int turn = sort == 2 || sort == 3 ? -1 : 1;
                for (int v = 0; v < x.count(0); v++) {
                    sum[v] += by * turn * (x.coefficient(x.bound(k, 0), v) - 10);
                }
                sum[3] += by * turn * (x.bound(k, 2) - 100);
                common = gcd(common, Math.abs(by));
            }
            C.due("no integer divides all", common, 1);
            C.due("zeros", Math.abs(sum[0]) + Math.abs(sum[1]) + Math.abs(sum[2]), 0);
            C.due("the number is low enough", sum[3] < 0 || sum[3] == 0 && strict ? 1 : 0, 1);
        }
    }

    private static long gcd(long a, long b) {
        return b == 0 ? a : gcd(b, a % b);
    }

    private static void relieves(String text, int k, int answer, long top, long bottom) {
        BoundProofs x = start("14: relief", text);
        C.due("relief(" + k + ")", x.relief(k), answer);
        C.number(x, top, bottom);
    }

    private static void relief() {
        relieves("fa;b0 0 1;b0 2 4;", 0, 1, 3, 1);
        relieves("fa;b0 0 1;b0 2 4;", 1, 1, 3, 1);
        relieves("fa;b0 1 1;b0 2 4;", 0, 0, 3, 1);
        relieves("fa;b0 1 1;b0 2 4;", 1, 0, 3, 1);
        relieves("fa;b0 1 1;b0 3 1;", 1, 0, 0, 1);
        relieves("fa;b0 0 1;b0 2 1;", 1, 1, 0, 1);
        relieves("fa;b0 0 1;", 0, 1, 0, 1);
        relieves("fa;f3a;b0 4 1;b1 4 1;", 0, 1, 2, 3);
        relieves("fa;f3a;b0 4 1;b1 4 1;", 1, 1, 2, 1);
        relieves("fa;f2a;b0 4 1;b1 1 -3;", 0, 0, 5, 2);
        relieves("fa;f2a;b0 4 -1;b1 3 3;", 0, 0, 5, 2);
        relieves("fa;b0 4 0;b0 1 0;", 0, 0, 0, 1);
        relieves("fa;b0 0 0;b0 2 2;b0 3 1;b0 3 2;", 0, 0, 2, 1);
        relieves("fa;b0 0 0;b0 1 0;b0 2 2;", 0, NONE, 0, 1);
        relieves("fa;b0 0 0;b0 1 0;b0 2 2;", 2, 0, 2, 1);
        relieves("fa;b0 0 0;b0 1 1;b0 2 2;", 2, 1, 2, 1);
        relieves("fa;b0 0 0;", 1, BAD, 0, 1);
        relieves("fa;b0 0 0;", -1, BAD, 0, 1);
        relieves("", 0, BAD, 0, 1);
        BoundProofs x = start("14: relief", "fa;b0 4 5;b0 0 2;b0 1 1;b0 2 1;");
        x.relief(0);
        C.due("the others are not satisfiable", x.relief(0), NONE);
        x = start("14: relief", "fa;b0 0 0;b0 2 7;b0 0 1;");
        C.due("relief(1)", x.relief(1), 1);
        C.number(x, 7, 1);
        x.asserts(0, 2, 9);
        C.due("relief(1)", x.relief(1), NONE);
        C.number(x, 7, 1);
    }

    private static void spared() {
        BoundProofs x = start("15: spared", "");
        C.due("spared(0)", x.spared(0), 0);
        C.due("spared(1)", x.spared(1), 0);
        C.due("spared(2)", x.spared(2), BAD);
        C.due("spared(-1)", x.spared(-1), BAD);
        x = start("15: spared", "fa;b0 0 1;b0 2 1;");
        C.due("spared(0)", x.spared(0), 0);
        C.due("spared(1)", x.spared(1), 0);
        x = start("15: spared", "fa;b0 2 5;b0 0 1;b0 2 4;b0 0 2;");
        C.due("spared(0)", x.spared(0), 2);
        C.due("the smallest set", x.spared(1), 5);
        x = start("15: spared", "fa;b0 4 1;b0 4 2;b0 4 3;b0 4 4;b0 4 5;b0 4 6;b0 4 7;b0 4 8;b0 4 9;b0 4 0;");
        C.due("spared(0)", x.spared(0), 9);
        C.due("spared(1)", x.spared(1), 511);
        x = start("15: spared", "fa;fb;b0 4 1;b1 4 1;b0 4 2;b1 4 2;b0 4 3;b1 4 1;");
        C.due("spared(0)", x.spared(0), 3);
        C.due("spared(1)", x.spared(1), 1 + 4 + 8);
    }

    private static void ranges(String text, int f, int what, int answer, long top, long bottom) {
        BoundProofs x = start("16: range", text);
        C.due("range(" + f + ", " + what + ")", x.range(f, what), answer);
        C.number(x, top, bottom);
    }

    private static void range() {
        String triangle = "fa;fb;f2a+3b;b0 2 0;b1 3 0;b2 0 7;";
        ranges(triangle, 0, 0, 1, 0, 1);
        ranges(triangle, 0, 1, 0, 7, 2);
        ranges(triangle, 1, 0, 0, 0, 1);
        ranges(triangle, 1, 1, 1, 7, 3);
        ranges(triangle, 2, 1, 1, 7, 1);
        ranges(triangle, 2, 0, 0, 0, 1);
        ranges("fa;fb;b0 0 1;", 0, 1, 1, 1, 1);
        ranges("fa;fb;b0 0 1;", 0, 0, NONE, 0, 1);
        ranges("fa;fb;b0 0 1;", 1, 1, NONE, 0, 1);
        ranges("fa;f2a;b0 4 -5;", 1, 0, 1, -10, 1);
        ranges("f2a;f-3a;b0 1 5;", 1, 0, 0, -15, 2);
        ranges("fa;f3a;b0 0 1;b1 1 3;", 0, 1, 0, 1, 1);
        ranges("fa;f2a;b0 1 1;b1 0 2;", 0, 1, 0, 1, 1);
        ranges("fa;f2a;b0 0 1;b1 1 2;", 0, 1, 0, 1, 1);
        ranges("fa;", 1, 0, BAD, 0, 1);
        ranges("fa;", -1, 0, BAD, 0, 1);
        ranges("fa;", 0, 2, BAD, 0, 1);
        ranges("fa;", 0, -1, BAD, 0, 1);
        ranges("fa;b0 0 1;b0 2 2;", 0, 0, STATE, 0, 1);
        ranges("fa;b0 0 1;b0 2 2;", 0, 2, BAD, 0, 1);
        ranges("fa;b0 0 1;b0 2 2;", 1, 0, BAD, 0, 1);
        ranges("n3;fa+b+c;fa-b;fb-c;f3a-2c;b0 4 0;b1 3 0;b2 3 0;b3 0 1;", 1, 1, 0, 3, 8);
    }

    private static void follows() {
        BoundProofs x = start("17: follows", "fa;fb;fa+b;b0 0 1;b1 1 2;");
        int[][] yes = {{0, 0, 1}, {0, 1, 2}, {1, 1, 2}, {1, 0, 2}, {2, 1, 3}, {2, 0, 3}, {2, 0, 50}};
        int[][] no = {{0, 1, 1}, {0, 0, 0}, {1, 1, 1}, {2, 0, 2}, {0, 2, -50}, {0, 4, 1}, {0, 3, 1}};
        for (int[] b : yes) {
            C.due("follows", x.follows(b[0], b[1], b[2]), 1);
        }
        for (int[] b : no) {
            C.due("follows", x.follows(b[0], b[1], b[2]), 0);
        }
        wrongBounds(0);
        x = start("17: follows", "fa;fb;fa+b;b0 4 1;b2 0 3;b2 2 3;");
        C.due("equal", x.follows(1, 4, 2), 1);
        C.due("equal", x.follows(1, 4, 1), 0);
        C.due("count(2)", x.count(2), 3);
        x = start("17: follows", "fa;fb;b0 1 0;b0 3 0;");
        for (int sort = 0; sort <= 4; sort++) {
            C.due("anything", x.follows(1, sort, 7), 1);
        }
        x = start("17: follows", "fa;");
        for (int sort = 0; sort <= 4; sort++) {
            C.due("nothing", x.follows(0, sort, 0), 0);
        }
        x = start("17: follows", "fa;fb;b0 0 1;b0 0 1;b0 0 1;b0 0 1;b0 0 1;b0 0 1;b0 0 1;b0 0 1;b0 0 1;");
        x.asserts(0, 2, 1);
        C.due("from ten", x.follows(0, 4, 1), 1);
        C.due("from ten", x.follows(1, 4, 1), 0);
        x = start("17: follows", "fa;fb;b0 0 1;b0 0 1;b0 0 1;b0 0 1;b0 0 1;b0 0 1;b0 0 1;b0 0 1;b0 0 1;");
        x.asserts(0, 0, 1);
        C.due("from ten, on one side only", x.follows(0, 4, 1), 0);
        C.due("from ten, on one side only", x.why(0, 4, 1), NONE);
    }

    private static void wrongBounds(int method) {
        BoundProofs x = new BoundProofs();
        x.form(1, 0, 0);
        int[][] bad = {{1, 0, 0}, {-1, 0, 0}, {0, 5, 0}, {0, -1, 0}, {0, 0, 51}, {0, 0, -51}, {MIN, MAX, MIN}};
        for (int[] b : bad) {
            int answer = method == 0 ? x.follows(b[0], b[1], b[2])
                : method == 1 ? x.since(b[0], b[1], b[2]) : x.why(b[0], b[1], b[2]);
            C.due("wrong", answer, BAD);
        }
    }

    private static void since() {
        BoundProofs x = start("18: since", "fa;fb;fa+b;b0 0 3;b1 0 1;b0 1 2;b2 2 9;");
        C.due("a <= 3", x.since(0, 0, 3), 1);
        C.due("a + b <= 4", x.since(2, 0, 4), 2);
        C.due("a < 2", x.since(0, 1, 2), 3);
        C.due("a > 40, from an unsatisfiable set", x.since(0, 3, 40), 4);
        wrongBounds(1);
        x = start("18: since", "fa;fb;b0 0 3;");
        C.due("never", x.since(1, 0, 3), NONE);
        x = start("18: since", "fa;");
        C.due("from none", x.since(0, 0, 50), NONE);
        x = start("18: since", "fa;b0 0 1;b0 2 1;");
        C.due("a = 1", x.since(0, 4, 1), 2);
    }

    private static void why() {
        BoundProofs x = start("19: why", "fa;fb;fa+b;b2 0 4;b0 0 3;b1 0 1;b0 1 2;");
        C.due("a + b <= 4", x.why(2, 0, 4), 1);
        C.due("a + b <= 3", x.why(2, 0, 3), 12);
        C.due("a <= 3", x.why(0, 0, 3), 2);
        C.due("a <= 2", x.why(0, 0, 2), 8);
        C.due("not", x.why(0, 1, 1), NONE);
        wrongBounds(2);
        x = start("19: why", "fa;fb;b1 0 2;b0 0 3;b0 3 3;b1 0 1;");
        C.due("from an unsatisfiable set", x.why(1, 4, 9), 6);
        C.due("without it", x.why(1, 0, 2), 1);
        x = start("19: why", "fa;b0 0 1;b0 4 1;b0 2 1;");
        C.due("a = 1", x.why(0, 4, 1), 2);
        x = start("19: why", "fa;b0 0 1;b0 2 1;b0 4 1;");
        C.due("a = 1", x.why(0, 4, 1), 3);
        C.due("none", start("19: why", "fa;").why(0, 0, 1), NONE);
    }

    private static void samples(String text, long... point) {
        BoundProofs x = start("20: sample", text);
        for (int v = 0; v < point.length / 2; v++) {
            C.due("sample(" + v + ")", x.sample(v), 1);
            C.number(x, point[2 * v], point[2 * v + 1]);
        }
    }

    private static void sample() {
        samples("", 0, 1, 0, 1);
        samples("fa;b0 2 3;", 3, 1);
        samples("fa;b0 3 3;", 4, 1);
        samples("fa;b0 0 -3;", -3, 1);
        samples("fa;b0 1 -3;", -4, 1);
        samples("f3a;b0 3 1;b0 1 3;", 1, 2);
        samples("f3a;b0 2 1;b0 1 2;", 1, 2);
        samples("f3a;f2a;b0 2 1;b1 1 1;", 1, 3);
        samples("f3a;f2a;b0 3 1;b1 1 1;", 2, 5);
        samples("f3a;f2a;b0 1 -1;b1 3 -1;", -2, 5);
        samples("f3a;f2a;b0 1 -1;b1 2 -1;", -1, 2);
        samples("f3a;b0 4 -50;", -50, 3);
        samples("f2a;b0 3 5;b0 1 7;", 3, 1);
        samples("fa;fb;fa+2b;b0 3 0;b1 3 0;b2 1 1;", 1, 2, 1, 5);
        samples("fa;b0 3 0;b0 1 1;", 1, 2, 0, 1);
        samples("fa;b0 3 -1;b0 1 0;", -1, 2, 0, 1);
        samples("fa;b0 3 -1;b0 1 1;", 0, 1, 0, 1);
        samples("fa;f3a;b0 3 0;b1 1 1;", 1, 4);
        samples("f3a;b0 0 1;b0 3 -1;", 0, 1);
        samples("f3a;b0 1 1;b0 3 -1;", 0, 1);
        samples("fa+b;f2a;b0 4 1;b1 4 3;", 3, 2, -1, 2);
        samples("n3;fa+b+c;f2a;f3b;b0 4 1;b1 4 3;b2 4 -1;", 3, 2, -1, 3, -1, 6);
        samples("n3;fa+b+c;fa-b;fb-c;f3a-2c;b0 4 0;b1 3 0;b2 3 0;b3 0 1;", 1, 5, 0, 1, -1, 5);
        BoundProofs x = start("20: sample", "fa;b0 1 0;b0 3 0;");
        C.due("unsatisfiable", x.sample(0), STATE);
        C.due("no variable", x.sample(2), BAD);
        C.due("no variable", x.sample(-1), BAD);
        C.number(x, 0, 1);
    }

    private static void value() {
        BoundProofs x = start("21: value", "f3a;f2b;fa+b;f2a-3b;b0 4 1;b1 4 1;");
        C.due("value(0)", x.value(0), 1);
        C.number(x, 1, 1);
        C.due("value(2)", x.value(2), 1);
        C.number(x, 5, 6);
        C.due("value(3)", x.value(3), 1);
        C.number(x, -5, 6);
        C.due("value(4)", x.value(4), BAD);
        C.due("value(-1)", x.value(-1), BAD);
        x.asserts(0, 4, 2);
        C.due("unsatisfiable", x.value(0), STATE);
        C.due("unsatisfiable and no form", x.value(4), BAD);
        C.number(x, -5, 6);
        x = start("21: value", "fa;");
        C.due("value(0)", x.value(0), 1);
        C.number(x, 0, 1);
    }

    private static void corners(String text, long... points) {
        BoundProofs x = start("22: corner", text);
        int n = x.count(0);
        int size = points.length / (2 * n);
        C.due("count(4)", x.count(4), size);
        for (int i = 0; i < size * n; i++) {
            C.due("corner(" + i / n + ", " + i % n + ")", x.corner(i / n, i % n), 1);
            C.number(x, points[2 * i], points[2 * i + 1]);
        }
        C.due("corner(" + size + ", 0)", x.corner(size, 0), NONE);
        C.due("corner(MAX, 0)", x.corner(MAX, 0), NONE);
    }

    private static void corner() {
        corners("");
        corners("fa;b0 0 1;");
        corners("n1;f2a;b0 0 1;", 1, 2);
        corners("n1;f2a;b0 1 1;b0 3 -5;", -5, 2, 1, 2);
        corners("fa;fb;f2a+3b;b0 2 0;b1 3 0;b2 1 7;", 0, 1, 0, 1, 0, 1, 7, 3, 7, 2, 0, 1);
        corners("fa;fb;fa+b;b0 2 0;b1 2 0;b2 2 0;", 0, 1, 0, 1);
        corners("fa;fb;b0 1 0;b0 3 0;b1 4 1;", 0, 1, 1, 1);
        corners("fa;fb;b0 1 0;b0 3 1;b1 4 1;");
        corners("fa;fb;b0 4 2;b1 4 -3;", 2, 1, -3, 1);
        corners("n3;fa;fb;fc;b0 4 2;b1 4 -3;b2 2 0;b2 0 1;", 2, 1, -3, 1, 0, 1, 2, 1, -3, 1, 1, 1);
        BoundProofs x = start("22: corner", "n3;fa;fb;fc;b0 2 0;b0 0 1;b1 2 0;b1 0 1;b2 2 0;b2 0 1;");
        C.due("a cube", x.count(4), 8);
        for (int k = 0; k < 8; k++) {
            for (int v = 0; v < 3; v++) {
                x.corner(k, v);
                C.number(x, k >> 2 - v & 1, 1);
            }
        }
        C.due("k is negative", x.corner(-1, 0), BAD);
        C.due("no variable", x.corner(0, 3), BAD);
        C.due("no variable and no vertex", x.corner(8, -1), BAD);
        C.due("no vertex", x.corner(8, 0), NONE);
        C.number(x, 1, 1);
    }

    private static void whole() {
        BoundProofs x = start("23: whole", "f2a+b;fa;b0 4 3;b1 3 -4;b1 1 3;");
        int[][] points = {{0, 3}, {1, 1}, {2, -1}};
        C.due("count(5)", x.count(5), 3);
        for (int i = 0; i < 6; i++) {
            C.due("whole(" + i / 2 + ", " + i % 2 + ")", x.whole(i / 2, i % 2), 1);
            C.due("told()", x.told(), points[i / 2][i % 2]);
        }
        C.due("no solution", x.whole(3, 0), NONE);
        C.due("no solution", x.whole(MAX, 0), NONE);
        C.due("k is negative", x.whole(-1, 0), BAD);
        C.due("no variable", x.whole(0, 2), BAD);
        C.due("no variable", x.whole(9, -1), BAD);
        C.due("told() is left", x.told(), -1);
        C.number(x, 0, 1);
        x = start("23: whole", "n3;");
        C.due("the last of all", x.whole(728, 2), 1);
        C.due("told()", x.told(), 4);
        C.due("the first of all", x.whole(0, 0), 1);
        C.due("told()", x.told(), -4);
        C.due("the second of all", x.whole(1, 2), 1);
        C.due("told()", x.told(), -3);
        C.due("no more", x.whole(729, 0), NONE);
        C.due("n is 1", start("23: whole", "n1;").count(5), 9);
        C.due("5 is not small", start("23: whole", "fa;b0 2 5;").count(5), 0);
        C.due("unsatisfiable", start("23: whole", "fa;b0 1 0;b0 3 0;").whole(0, 0), NONE);
        C.due("strict", start("23: whole", "n1;fa;b0 3 -2;b0 1 2;").count(5), 3);
        C.due("not strict", start("23: whole", "n1;fa;b0 2 -2;b0 0 2;").count(5), 5);
    }

    private static void results() {
        BoundProofs x = start("24 to 26: results", "f2a;fb;fa;b0 1 5;b1 2 1;");
        C.due("range", x.range(2, 1), 0);
        C.number(x, 5, 2);
        C.due("no bound", x.range(0, 0), NONE);
        C.due("no form", x.range(9, 0), BAD);
        C.due("no vertex", x.corner(1, 0), NONE);
        C.due("met", x.met(), 1);
        C.due("whole", x.whole(0, 1), 1);
        C.number(x, 5, 2);
        C.due("told()", x.told(), 1);
        C.due("corner", x.corner(0, 1), 1);
        C.number(x, 1, 1);
        C.due("sample", x.sample(0), 1);
        C.number(x, 0, 1);
        C.due("told()", x.told(), 1);
        x.asserts(1, 1, -2);
        C.due("relief", x.relief(2), 0);
        C.number(x, 3, 1);
        C.due("proof", x.proof(0), 0);
        C.due("told()", x.told(), 0);
        C.due("proof", x.proof(2), 1);
        C.due("told()", x.told(), 1);
        C.due("tells", Checks.tell(x, "n1;"), 1);
        C.number(x, 3, 1);
        C.due("told() outlives the constraints", x.told(), 1);
    }

    private static void keepAndBack() {
        BoundProofs x = start("27 and 28: keep, back", "n3;fa;fa+c;b1 0 4;");
        C.due("keep(-1)", x.keep(-1), BAD);
        C.due("keep(2)", x.keep(2), BAD);
        C.due("back(-1)", x.back(-1), BAD);
        C.due("back(2)", x.back(2), BAD);
        C.due("back(0)", x.back(0), STATE);
        C.due("keep(1)", x.keep(1), 1);
        C.due("back(0)", x.back(0), STATE);
        x.level();
        x.asserts(1, 2, 5);
        x.form(0, 1, 0);
        C.due("keep(0)", x.keep(0), 2);
        C.due("met()", x.met(), 0);
        C.due("back(1)", x.back(1), 1);
        C.due("met()", x.met(), 1);
        C.due("count(1)", x.count(1), 2);
        C.due("count(3)", x.count(3), 0);
        C.due("a form that is gone", x.asserts(2, 0, 0), BAD);
        C.due("back(0)", x.back(0), 2);
        C.due("met()", x.met(), 0);
        C.due("count(1)", x.count(1), 3);
        C.due("count(3)", x.count(3), 1);
        C.due("withdraws(1)", x.withdraws(1), 1);
        C.due("met()", x.met(), 1);
        C.due("it stays saved", x.back(0), 2);
        C.due("it is not changed by what comes later", x.count(3), 1);
        C.due("coefficient", x.coefficient(1, 2), 11);
        x.type('f');
        x.range(0, 0);
        C.due("back(1)", x.back(1), 1);
        C.due("the text is not saved", x.count(6), 1);
        C.due("keep over it", x.keep(0), 1);
        C.due("back(0)", x.back(0), 1);
    }

    private static void count() {
        BoundProofs x = start("29: count", "n1;f2a;fa;b0 0 5;b1 2 -1;b0 2 -9;");
        x.level();
        x.type('f');
        int[] counts = {1, 2, 3, 1, 2, 4, 1};
        for (int what = 0; what < counts.length; what++) {
            C.due("count(" + what + ")", x.count(what), counts[what]);
        }
        for (int what : new int[] {-1, 7, MIN, MAX}) {
            C.due("count(" + what + ")", x.count(what), BAD);
        }
    }

    /** After each call that returns an error, everything that can be asked is as before. */
    private static void errorsChangeNothing() {
        BoundProofs x = start("errors change nothing", "fa;fb;b0 3 1;b1 4 2;");
        x.level();
        x.asserts(1, 0, 1);
        x.keep(0);
        x.proof(1);
        x.relief(1);
        x.type(';');
        long before = all(x);
        long[] answers = {x.type(256), x.tells(), x.form(0, 0, 0), x.form(0, 0, 1), x.coefficient(0, 2), x.asserts(2, 0, 0),
            x.bound(3, 0), x.withdraws(2), x.proof(3), x.relief(-1), x.spared(2), x.range(0, 0), x.range(0, 2),
            x.follows(0, 9, 0), x.since(0, 0, 99), x.why(7, 0, 0), x.sample(0), x.sample(2), x.value(0), x.corner(-1, 0),
            x.whole(-1, 0), x.whole(0, 0), x.corner(0, 0), x.keep(2), x.back(1), x.back(2), x.count(7)};
        long[] due = {BAD, -10, BAD, BAD, BAD, BAD, BAD, BAD, BAD, BAD, BAD, STATE, BAD, BAD, BAD, BAD, STATE, BAD, STATE, BAD, BAD,
            NONE, NONE, BAD, STATE, BAD, BAD};
        for (int i = 0; i < answers.length; i++) {
            C.due("error " + i, answers[i], due[i]);
        }
        C.due("everything", all(x), before);
    }

    private static long all(BoundProofs x) {
        long sum = 17;
        for (int what = 0; what < 7; what++) {
            sum = sum * 31 + x.count(what);
        }
        for (int k = 0; k < x.count(2); k++) {
            sum = sum * 31 + x.bound(k, 0) + 7L * x.bound(k, 1) + 77L * x.bound(k, 2);
        }
        for (int f = 0; f < x.count(1); f++) {
            sum = sum * 31 + x.coefficient(f, 0) + 50L * x.coefficient(f, 1);
        }
        return ((sum * 31 + x.upper()) * 31 + x.lower()) * 31 + x.told();
    }
}
