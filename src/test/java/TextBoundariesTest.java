import java.util.ArrayList;
import java.util.List;
import java.util.Set;

/** The paragraph TEXTS and the promises 2 to 4, sentence by sentence: what is just allowed, and what is just not. */
public final class TextBoundariesTest {
    private static final int BAD = BoundProofs.BAD;
    private static final int STATE = BoundProofs.STATE;
    private static final int FULL = BoundProofs.FULL;
    private static final int MIN = Integer.MIN_VALUE;
    private static final int MAX = Integer.MAX_VALUE;
    private static final String EIGHT_FORMS = "fa;".repeat(8);
    private static final String TEN_CONSTRAINTS = "fa;" + "b0 0 0;".repeat(10);
    private static final Checks C = new Checks();

    public static void main(String[] args) {
        codes();
        ninetyCharacters();
        cleared();
        noItems();
        numberOfItems();
        nextTokens();
        endsWithinAnItem();
        spaces();
        numbers();
        coefficients();
        longForms();
        limitsOfATextAreThoseOfTheObject();
        everythingIsReplaced();
        anErrorChangesNothing();
        C.end();
    }

    private static BoundProofs typed(String text) {
        BoundProofs x = new BoundProofs();
        for (int i = 0; i < text.length(); i++) {
            C.due("type() of letter " + i + " of \"" + text + "\"", x.type(text.charAt(i)), i + 1);
        }
        return x;
    }

    /** What a new object answers to a text; it has the text still just if the answer is an error. */
    private static BoundProofs told(String text, int answer) {
        BoundProofs x = typed(text);
        C.due("tells() of \"" + text + "\"", x.tells(), answer);
        C.due("characters then of \"" + text + "\"", x.count(6), answer < 0 ? text.length() : 0);
        return x;
    }

    private static void fails(String text, int position) {
        BoundProofs x = told(text, -10 - position);
        C.due("forms of \"" + text + "\"", x.count(1), 0);
        C.due("constraints of \"" + text + "\"", x.count(2), 0);
        C.due("variables of \"" + text + "\"", x.count(0), 2);
    }

    private static void codes() {
        C.about("2: letter, its code, 0 to 255; BAD if it is out of range");
        for (int letter = -3; letter <= 258; letter++) {
            BoundProofs x = new BoundProofs();
            boolean allowed = letter >= 0 && letter <= 255;
            C.due("type(" + letter + ")", x.type(letter), allowed ? 1 : BAD);
            C.due("count(6)", x.count(6), allowed ? 1 : 0);
        }
        for (int letter : new int[] {MIN, MAX, -256, -159, 256 + 'f', 65536 + 'f', MIN + 'f'}) {
            BoundProofs x = new BoundProofs();
            C.due("type(" + letter + ")", x.type(letter), BAD);
            C.due("clear()", x.clear(), 0);
        }
    }

    private static void ninetyCharacters() {
        C.about("2: FULL if it has 90 characters; 90 are allowed");
        BoundProofs x = new BoundProofs();
        C.due("empty at first", x.count(6), 0);
        for (int i = 1; i <= 90; i++) {
            C.due("type(32)", x.type(i == 1 ? 'f' : i == 2 ? 'b' : i == 90 ? ';' : ' '), i);
        }
        for (int letter : new int[] {0, ' ', 'a', 255}) {
            C.due("type(" + letter + ")", x.type(letter), FULL);
        }
        C.about("2: BAD rather than FULL");
        for (int letter : new int[] {-1, 256, MIN, MAX}) {
            C.due("type(" + letter + ")", x.type(letter), BAD);
        }
        C.about("2: an error changes nothing in the full text");
        C.due("count(6)", x.count(6), 90);
        C.due("tells()", x.tells(), 1);
        C.due("coefficient(0, 0)", x.coefficient(0, 0), 10);
        C.due("coefficient(0, 1)", x.coefficient(0, 1), 11);
        C.about("2: there is room again behind tells() and clear()");
        C.due("count(6)", x.count(6), 0);
        C.due("type(102)", x.type('f'), 1);
        for (int i = 2; i <= 90; i++) {
            x.type('x');
        }
        C.due("type(32)", x.type(' '), FULL);
        C.due("clear()", x.clear(), 90);
        C.due("type(102)", x.type('f'), 1);
    }

    private static void cleared() {
        C.about("3: clear returns how many characters the text had");
        C.due("an empty text", new BoundProofs().clear(), 0);
        for (int had = 1; had <= 90; had++) {
            BoundProofs x = typed("x".repeat(had));
            C.due("clear()", x.clear(), had);
            C.due("count(6)", x.count(6), 0);
            C.due("clear() again", x.clear(), 0);
            C.due("tells() of what is left", x.tells(), 0);
        }
        C.about("3: clear empties the text and nothing else");
        BoundProofs x = told("n3;fa;b0 0 5;", 3);
        x.level();
        x.keep(1);
        x.range(0, 1);
        x.type('f');
        C.due("clear()", x.clear(), 1);
        C.due("count(0)", x.count(0), 3);
        C.due("count(1)", x.count(1), 1);
        C.due("count(2)", x.count(2), 1);
        C.due("count(3)", x.count(3), 1);
        C.due("back(1)", x.back(1), 1);
        C.number(x, 5, 1);
    }

    private static void noItems() {
        C.about("TEXTS: it may have no items");
        for (int length = 0; length <= 90; length++) {
            told(" ".repeat(length), 0);
        }
    }

    private static void numberOfItems() {
        C.about("4: returns the number of items");
        told("n1;", 1);
        told("fa;", 1);
        told("n1;fa;", 2);
        told("fa;b0 0 0;", 2);
        told("fa;b0 0 0;fb;b1 4 -50;", 4);
        told(EIGHT_FORMS, 8);
        told("n2;" + EIGHT_FORMS, 9);
        told(TEN_CONSTRAINTS, 11);
        told("n3;" + TEN_CONSTRAINTS, 12);
        told("n3;" + TEN_CONSTRAINTS + "fb;fc;", 14);
        told("fa;".repeat(7) + "b6 0 0;".repeat(9), 16);
    }

    private static List<String> tokens() {
        List<String> all = new ArrayList<>();
        for (int letter = 0; letter < 256; letter++) {
            if (letter != ' ' && (letter < '0' || letter > '9')) {
                all.add("" + (char) letter);
            }
        }
        for (int number = 0; number <= 61; number++) {
            all.add("" + number);
        }
        all.addAll(List.of("99", "100", "101", "255", "256", "257", "500", "1000", "65536", "65537", "2147483647", "2147483648",
            "4294967295", "4294967296", "4294967297", "9223372036854775808", "18446744073709551616"));
        for (String number : List.of("0", "1", "2", "3", "4", "5", "7", "50", "51")) {
            all.add("0" + number);
            all.add("00" + number);
        }
        return all;
    }

    /** Behind a text that has no error yet, just these tokens are allowed. */
    private static void next(String before, String... allowed) {
        C.about("TEXTS: just " + String.join(" ", allowed) + " may stand behind \"" + before + "\"");
        for (String token : tokens()) {
            for (int gap = 1; gap <= 2; gap++) {
                String text = before + " ".repeat(gap) + token;
                if (text.length() > 90) {
                    continue;
                }
                if (!Set.of(allowed).contains(token)) {
                    fails(text, before.length() + gap);
                } else if (token.equals(";")) {
                    told(text, (int) text.chars().filter(c -> c == ';').count());
                } else {
                    fails(text, text.length());
                }
            }
        }
    }

    private static String[] numbersTo(int most, String... more) {
        List<String> all = new ArrayList<>(List.of(more));
        for (int i = 0; i <= most; i++) {
            all.add("" + i);
        }
        return all.toArray(new String[0]);
    }

    private static void nextTokens() {
        next("", "n", "f", "b");
        next("n", "1", "2", "3");
        next("n 1", ";");
        next("n3;", "f", "b");
        next("fa;", "f", "b");
        next("f", "+", "-", "1", "2", "3", "a", "b");
        next("n1;f", "+", "-", "1", "2", "3", "a");
        next("n2;f", "+", "-", "1", "2", "3", "a", "b");
        next("n3;f", "+", "-", "1", "2", "3", "a", "b", "c");
        next("f+", "1", "2", "3", "a", "b");
        next("f-", "1", "2", "3", "a", "b");
        next("f1", "a", "b");
        next("f-3", "a", "b");
        next("n1;f-3", "a");
        next("n3;f+2", "a", "b", "c");
        next("fa", "+", "-", ";");
        next("f3a-3b", "+", "-", ";");
        next("n3;f-3c", "+", "-", ";");
        next("fa+", "1", "2", "3", "a", "b");
        next("fa-", "1", "2", "3", "a", "b");
        next("n1;fa-", "1", "2", "3", "a");
        next("fa-2", "a", "b");
        next("fa-a", "+", "-");
        next("n1;f3a-3a", "+", "-");
        next("n3;fa-a+b-b+c-c", "+", "-");
        next("n3;fa-a+b-b+c-c-c", "+", "-", ";");
        next("f3a+a", "+", "-");
        next("f3a+a-a", "+", "-", ";");
        next("f-3b-b", "+", "-");
        next("fb-2a-2a", "+", "-");
        next("n3;fa+b+2c+2c", "+", "-");
        next("fa;".repeat(7), "f", "b");
        next(EIGHT_FORMS, "b");
        next("n3;" + EIGHT_FORMS, "b");
        next("b");
        next("n3;b");
        next("fa;b", "0");
        next("fa;fb;b", "0", "1");
        next(EIGHT_FORMS + "b", numbersTo(7));
        next("fa;b0", numbersTo(4));
        next("fa;b0 0", numbersTo(50, "-"));
        next("fa;b0 4", numbersTo(50, "-"));
        next("fa;b0 4-", numbersTo(50));
        next("fa;b0 4 50", ";");
        next("fa;b0 4-50", ";");
        next("fa;b0 4 0", ";");
        next("fa;" + "b0 0 0;".repeat(9), "f", "b");
        next("fa;fa;fa;fa;fa;fa;fa;b6 0 0;", "f", "b");
        next(TEN_CONSTRAINTS, "f");
    }

    private static void endsWithinAnItem() {
        C.about("TEXTS: the error position is the length of the text if the text ends within an item");
        for (String text : new String[] {" n 3 ; f + 2 a - b + c ; f-3c ;  b 0 4 - 50;b1 3 0; b 1 0 17 ;", "fa;b0 1 5;fb;b1 2 -50;"}) {
            int items = 0;
            int begun = 0;
            for (int length = 0; length <= text.length(); length++) {
                char letter = length == 0 ? ' ' : text.charAt(length - 1);
                begun = letter == ';' ? 0 : letter == ' ' ? begun : begun + 1;
                items += letter == ';' ? 1 : 0;
                told(text.substring(0, length), begun == 0 ? items : -10 - length);
                told(text.substring(0, length) + "   ", begun == 0 ? items : -13 - length);
            }
        }
        C.about("TEXTS: the length can be 90");
        fails("f" + " ".repeat(89), 90);
        fails(" ".repeat(89) + "n", 90);
        fails(" ".repeat(88) + "n3", 90);
        fails("fa;b0 0" + " ".repeat(82) + "5", 90);
        C.about("TEXTS: the last of 90 characters can be the first wrong one");
        fails(" ".repeat(89) + ";", 89);
        fails("fa;b0 0" + " ".repeat(81) + "51", 88);
    }

    private static void spaces() {
        C.about("TEXTS: any number of spaces may stand before, between and after tokens");
        String[] tokens = {"n", "3", ";", "f", "2", "a", "-", "c", ";", "b", "0", "4", "-", "50", ";"};
        for (int gap = 0; gap < tokens.length; gap++) {
            for (int many : new int[] {0, 1, 2, 73}) {
                StringBuilder text = new StringBuilder();
                for (int i = 0; i < tokens.length; i++) {
                    text.append(i == gap ? " ".repeat(many) : "").append(i == 11 && (gap != 11 || many == 0) ? " " : "").append(tokens[i]);
                }
                BoundProofs x = told(text.toString(), 3);
                C.due("coefficients of \"" + text + "\"", 100 * x.coefficient(0, 0) + 10 * x.coefficient(0, 1) + x.coefficient(0, 2), 1309);
                C.due("bound(0, 2) of \"" + text + "\"", x.bound(0, 2), 50);
            }
        }
        told("fa;" + " ".repeat(87), 1);
        C.about("TEXTS: a space is code 32");
        for (int letter : new int[] {0, 9, 10, 11, 12, 13, 31, 33, 95, 133, 160}) {
            fails((char) letter + "fa;", 0);
            fails("fa" + (char) letter + ";", 2);
            fails("fa;" + (char) letter, 3);
        }
        C.about("TEXTS: a space ends a number");
        fails("fa;b0 0 5 0;", 10);
        fails("n1 2;", 3);
        fails("f1 1a;", 3);
    }

    private static void numbers() {
        C.about("TEXTS: a number is a run of digits that is as long as possible");
        fails("fa;b00 5;", 4);
        fails("fa;b0 05;", 6);
        fails("fa;b0 45;", 6);
        fails("f12a;", 1);
        fails("f33a;", 1);
        fails("n31;", 1);
        fails("fa;b0 0 500;", 8);
        C.due("bound(0, 2)", told("fa;b0 0 10;", 2).bound(0, 2), 110);
        C.due("bound(0, 2)", told("fa;b0 0 50;", 2).bound(0, 2), 150);
        C.due("bound(0, 2)", told("fa;b0 0-50;", 2).bound(0, 2), 50);
        C.about("TEXTS: without leading zeros, but 0 is a number");
        C.due("bound(0, 2)", told("fa;b0 0 0;", 2).bound(0, 2), 100);
        C.due("bound(0, 2)", told("fa;b0 0 -0;", 2).bound(0, 2), 100);
        fails("fa;b0 0 00;", 8);
        fails("fa;b0 0 -01;", 9);
        fails("fa;b0 0 0000000000050;", 8);
        fails("0;", 0);
        fails("00;", 0);
        C.about("TEXTS: a number that no machine number holds is out of range");
        for (String huge : new String[] {"4294967296", "18446744073709551616", "18446744073709551617", "1" + "0".repeat(64), "3".repeat(70)}) {
            fails("n" + huge, 1);
            fails("f" + huge + "a;", 1);
            fails("fa;b" + huge, 4);
            fails("fa;b0 " + huge, 6);
            fails("fa;b0 0 -" + huge, 9);
        }
    }

    private static void form(String terms, int a, int b, int c) {
        BoundProofs x = told("n3;f" + terms + ";", 2);
        int[] due = {a, b, c};
        for (int v = 0; v < 3; v++) {
            C.due("coefficient(0, " + v + ") of " + terms, x.coefficient(0, v), due[v] + 10);
        }
    }

    private static void coefficients() {
        C.about("TEXTS: in the first term the sign may be missing, which means plus");
        form("2a", 2, 0, 0);
        form("+2a", 2, 0, 0);
        form("-2a", -2, 0, 0);
        C.about("TEXTS: the number may be missing, which means 1");
        form("a", 1, 0, 0);
        form("+b", 0, 1, 0);
        form("-c", 0, 0, -1);
        form("1a-1b", 1, -1, 0);
        form("3a+b-c", 3, 1, -1);
        C.about("TEXTS: the coefficient of a variable is the sum of its terms");
        form("c+c+c", 0, 0, 3);
        form("-c-c-c", 0, 0, -3);
        form("3a-3a+b", 0, 1, 0);
        form("3a+3a+3a-3a-3a", 3, 0, 0);
        form("a+b+c-2a-2b-2c", -1, -1, -1);
        form("3a+3b+3c", 3, 3, 3);
        form("-3a-3b-3c", -3, -3, -3);
        C.about("TEXTS: the semicolon of a form with a coefficient that is not -3 to 3");
        fails("fa+a+a+a;", 8);
        fails("f-a-a-a-a;", 9);
        fails("n3;fa+b+3c+c;", 12);
        fails("f3b+3b ;", 7);
        C.about("TEXTS: the semicolon of a form with only zeros");
        fails("n1;f2a-2a;", 9);
        fails("fa+b-a-b;", 8);
        fails("n3;fa-a+b-b+c-c;", 15);
        C.about("TEXTS: a variable must exist");
        fails("n1;f2b;", 5);
        fails("n1;fa+c;", 6);
        fails("n2;f-c;", 5);
        fails("fa+c;", 3);
        form("a+c", 1, 0, 1);
    }

    private static void longForms() {
        C.about("TEXTS: one or more terms, as many as the text holds");
        BoundProofs x = told("fa" + "-a+a".repeat(21) + "+b;", 1);
        C.due("coefficient(0, 0)", x.coefficient(0, 0), 11);
        C.due("coefficient(0, 1)", x.coefficient(0, 1), 11);
        x = told("f" + "-a".repeat(3) + "+a-a".repeat(20) + "+b;", 1);
        C.due("coefficient(0, 0)", x.coefficient(0, 0), 7);
        told("f" + "-a+a".repeat(21) + "-b;", 1);
        fails("f" + "-a+a".repeat(22) + ";", 89);
        fails("f3a" + "+3a".repeat(28) + ";", 87);
        fails("f" + "-3b".repeat(29) + ";", 88);
        fails("f" + "+a".repeat(44) + "x", 89);
    }

    private static void limitsOfATextAreThoseOfTheObject() {
        C.about("TEXTS: the limits count what the text says, not what there is");
        BoundProofs x = full();
        for (String text : new String[] {EIGHT_FORMS, TEN_CONSTRAINTS}) {
            Checks.tell(x, text);
            C.due("count(1)", x.count(1), text.equals(EIGHT_FORMS) ? 8 : 1);
            C.due("count(2)", x.count(2), text.equals(EIGHT_FORMS) ? 0 : 10);
        }
        C.about("TEXTS: the form must stand before in the text, not in the object");
        C.due("tells()", Checks.tell(x, "b0 0 0;"), -11);
        C.due("tells()", Checks.tell(x, "fa;b1 0 0;"), -14);
        C.about("TEXTS: the variable must exist in the text, not in the object");
        C.due("tells()", Checks.tell(x, "n3;fc;"), 2);
        C.due("tells()", Checks.tell(x, "fc;"), -11);
        C.due("tells()", Checks.tell(x, "n1;fa;"), 2);
        C.due("tells()", Checks.tell(x, "fb;"), 1);
        C.about("4: FULL behind a text that filled the object");
        Checks.tell(x, EIGHT_FORMS);
        C.due("form(1, 0, 0)", x.form(1, 0, 0), FULL);
        C.due("asserts(7, 0, 0)", x.asserts(7, 0, 0), 0);
        Checks.tell(x, TEN_CONSTRAINTS);
        C.due("form(1, 0, 0)", x.form(1, 0, 0), 1);
        C.due("asserts(0, 0, 0)", x.asserts(0, 0, 0), FULL);
    }

    /** Everything is as full as it can be, and unsatisfiable. */
    private static BoundProofs full() {
        BoundProofs x = told("n3;fa;fb;fc;fa+b;fa-c;b0 0 -3;b1 2 4;", 8);
        x.keep(0);
        for (int i = 0; i < 4; i++) {
            C.due("level()", x.level(), i + 1);
            x.asserts(0, 2, 7 + i);
            x.asserts(1, 0, 9 - i);
        }
        while (x.count(1) < 8) {
            x.form(1, 2, 3);
        }
        x.keep(1);
        C.due("relief(0)", x.relief(1), BoundProofs.NONE);
        C.due("proof(0)", x.proof(0), 1);
        return x;
    }

    private static void everythingIsReplaced() {
        String[] texts = {"", "   ", "n1;", "n2;", "n3;", "fa;", "n1;fa;b0 2 1;", "n3;fc;b0 2 1;"};
        int[][] counts = {{2, 0, 0, 81}, {2, 0, 0, 81}, {1, 0, 0, 9}, {2, 0, 0, 81}, {3, 0, 0, 729}, {2, 1, 0, 81}, {1, 1, 1, 4}, {3, 1, 1, 324}};
        for (int i = 0; i < texts.length; i++) {
            C.about("4: everything is replaced by \"" + texts[i] + "\"");
            BoundProofs x = full();
            C.due("count(2) before", x.count(2), 10);
            C.due("met() before", x.met(), 0);
            C.due("told() before", x.told(), 1);
            C.due("tells()", Checks.tell(x, texts[i]), (int) texts[i].chars().filter(c -> c == ';').count());
            C.due("n is that of the text, or 2", x.count(0), counts[i][0]);
            C.due("forms", x.count(1), counts[i][1]);
            C.due("constraints", x.count(2), counts[i][2]);
            C.due("there are no levels", x.count(3), 0);
            C.due("withdraws(1)", x.withdraws(1), BAD);
            C.due("small integer solutions", x.count(5), counts[i][3]);
            C.due("the text is empty", x.count(6), 0);
            C.due("nothing is saved in 0", x.back(0), STATE);
            C.due("nothing is saved in 1", x.back(1), STATE);
            C.due("a form that is gone", x.coefficient(counts[i][1], 0), BAD);
            C.due("a constraint that is gone", x.bound(counts[i][2], 0), BAD);
            C.due("met()", x.met(), 1);
            C.due("told() stays", x.told(), 1);
            C.due("sample()", x.sample(0), 1);
        }
    }

    private static void anErrorChangesNothing() {
        C.about("4: then nothing changes, and the text stays");
        for (String text : new String[] {"n1;fa;b0 0 51;", "n1", "x", "n1;fa;fb;", "fa;b0 0 5;fa;fa-a;"}) {
            BoundProofs x = full();
            int answer = Checks.tell(x, text);
            C.due("it is an error", answer <= -10 ? 1 : 0, 1);
            C.due("the same error again", x.tells(), answer);
            int[] counts = {3, 8, 10, 4};
            for (int what = 0; what < 4; what++) {
                C.due("count(" + what + ")", x.count(what), counts[what]);
            }
            C.due("met()", x.met(), 0);
            C.due("core()", x.core(), 5);
            C.due("told()", x.told(), 1);
            C.due("coefficient(7, 2)", x.coefficient(7, 2), 13);
            C.due("bound(9, 2)", x.bound(9, 2), 106);
            C.due("clear()", x.clear(), text.length());
            C.due("withdraws(4)", x.withdraws(4), 2);
            C.due("back(1)", x.back(1), 10);
            C.due("count(1)", x.count(1), 8);
            C.due("count(3)", x.count(3), 4);
            C.due("back(0)", x.back(0), 2);
            C.due("count(1)", x.count(1), 5);
        }
        C.about("4: the text that stays can be ended");
        BoundProofs x = told("fa;b0 0 5", -19);
        C.due("type(48)", x.type('0'), 10);
        C.due("tells()", x.tells(), -20);
        C.due("type(59)", x.type(';'), 11);
        C.due("tells()", x.tells(), 2);
        C.due("bound(0, 2)", x.bound(0, 2), 150);
        C.about("4: an error position of 0 and of 90");
        fails("x", 0);
        fails("f" + " ".repeat(89), 90);
    }
}
