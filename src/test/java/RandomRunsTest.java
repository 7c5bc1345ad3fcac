import java.util.Random;

/** Runs of random calls (from fixed seeds) on the class and on the slow one, whose answers must agree. */
public final class RandomRunsTest {
    private static int wrong = 0;

    private final BoundProofs x = new BoundProofs();
    private final Oracle o = new Oracle();
    private final StringBuilder log = new StringBuilder();
    private final Random random;
    private int calls = 0;
    private boolean agree = true;

    private RandomRunsTest(long seed) {
        random = new Random(seed);
    }

    private int due(String call, long got, long want) {
        calls++;
        log.append(call).append(" = ").append(got).append("; ");
        if (got != want) {
            agree = false;
            wrong++;
            System.out.println(log + " due is " + want);
        }
        return (int) got;
    }

    private void results() {
        due("upper()", x.upper(), o.upper());
        due("lower()", x.lower(), o.lower());
        due("told()", x.told(), o.told());
    }

    private int pick(int least, int most) {
        return least + random.nextInt(most - least + 1);
    }

    /** Mostly a number from 0 to most, sometimes one beside it, seldom an extreme one. */
    private int roughly(int most) {
        int dice = random.nextInt(100);
        if (dice == 0) {
            return random.nextBoolean() ? Integer.MIN_VALUE : Integer.MAX_VALUE;
        }
        if (dice < 4) {
            return random.nextBoolean() ? -1 : most + 1;
        }
        return pick(0, Math.max(0, most));
    }

    private int number() {
        int dice = random.nextInt(40);
        if (dice == 0) {
            return random.nextBoolean() ? 51 : -51;
        }
        return dice < 8 ? pick(-50, 50) : pick(-5, 5);
    }

    private int coefficient(boolean exists) {
        if (!exists) {
            return random.nextInt(40) == 0 ? 1 : 0;
        }
        return random.nextInt(60) == 0 ? pick(-5, 5) : pick(-3, 3);
    }

    private void write(String text) {
        for (int i = 0; i < text.length() && agree; i++) {
            due("type(" + (int) text.charAt(i) + ")", x.type(text.charAt(i)), o.type(text.charAt(i)));
        }
    }

    private String randomText() {
        if (random.nextInt(20) == 0) {
            return random.nextBoolean() ? "" : "  ";
        }
        StringBuilder t = new StringBuilder();
        int n = pick(1, 3);
        if (n != 2 || random.nextBoolean()) {
            t.append("n").append(n).append(";");
        }
        int forms = pick(1, 5);
        for (int f = 0; f < forms; f++) {
            t.append(" f".substring(random.nextInt(2)));
            int terms = pick(1, 3);
            for (int i = 0; i < terms; i++) {
                t.append(i > 0 || random.nextBoolean() ? (random.nextBoolean() ? "+" : "-") : "");
                t.append(random.nextBoolean() ? "" : "" + pick(1, 3)).append("abc".charAt(random.nextInt(n)));
            }
            t.append(";");
        }
        int bounds = pick(0, 5);
        for (int k = 0; k < bounds; k++) {
            t.append("b").append(random.nextInt(forms)).append(" ").append(random.nextInt(5)).append(" ");
            t.append(random.nextInt(3) == 0 ? "-" : "").append(random.nextInt(9)).append(";");
        }
        return t.toString();
    }

    private String spoiled(String text) {
        StringBuilder t = new StringBuilder(text);
        String letters = "nfbac+-;0123456789 ;;  x\t" + (char) 0 + (char) 233;
        int changes = pick(1, 2);
        for (int i = 0; i < changes; i++) {
            int at = random.nextInt(t.length() + 1);
            char letter = letters.charAt(random.nextInt(letters.length()));
            int how = random.nextInt(3);
            if (how == 0 || at == t.length()) {
                t.insert(at, letter);
            } else if (how == 1) {
                t.deleteCharAt(at);
            } else {
                t.setCharAt(at, letter);
            }
        }
        return t.toString();
    }

    private void read() {
        due("clear()", x.clear(), o.clear());
        String text = randomText();
        write(random.nextInt(3) == 0 ? spoiled(text) : text);
        if (agree && due("tells()", x.tells(), o.tells()) < 0) {
            due("clear()", x.clear(), o.clear());
        }
    }

    private void change() {
        int n = x.count(0);
        switch (random.nextInt(14)) {
            case 0, 1 -> {
                int a = coefficient(true);
                int b = coefficient(n > 1);
                int c = coefficient(n > 2);
                due("form(" + a + ", " + b + ", " + c + ")", x.form(a, b, c), o.form(a, b, c));
            }
            case 2 -> due("level()", x.level(), o.level());
            case 3 -> {
                int levels = random.nextInt(3) == 0 ? pick(-1, 5) : 1;
                due("withdraws(" + levels + ")", x.withdraws(levels), o.withdraws(levels));
            }
            case 4 -> {
                int image = random.nextInt(20) == 0 ? pick(-1, 2) : pick(0, 1);
                due("keep(" + image + ")", x.keep(image), o.keep(image));
            }
            case 5 -> {
                int image = random.nextInt(20) == 0 ? pick(-1, 2) : pick(0, 1);
                due("back(" + image + ")", x.back(image), o.back(image));
            }
            default -> {
                int f = roughly(x.count(1) - 1);
                int sort = roughly(4);
                int number = number();
                String call = "asserts(" + f + ", " + sort + ", " + number + ")";
                due(call, x.asserts(f, sort, number), o.asserts(f, sort, number));
            }
        }
    }

    private void query() {
        int k = roughly(x.count(2) - 1);
        int f = roughly(x.count(1) - 1);
        int v = roughly(x.count(0) - 1);
        int sort = roughly(4);
        int number = number();
        int what = roughly(1);
        String bound = "(" + f + ", " + sort + ", " + number + ")";
        switch (random.nextInt(16)) {
            case 0 -> due("met()", x.met(), o.met());
            case 1 -> due("core()", x.core(), o.core());
            case 2, 3 -> due("proof(" + k + ")", x.proof(k), o.proof(k));
            case 4, 5 -> due("relief(" + k + ")", x.relief(k), o.relief(k));
            case 6 -> due("spared(" + what + ")", x.spared(what), o.spared(what));
            case 7, 8 -> due("range(" + f + ", " + what + ")", x.range(f, what), o.range(f, what));
            case 9 -> due("follows" + bound, x.follows(f, sort, number), o.follows(f, sort, number));
            case 10 -> due("since" + bound, x.since(f, sort, number), o.since(f, sort, number));
            case 11 -> due("why" + bound, x.why(f, sort, number), o.why(f, sort, number));
            case 12 -> due("sample(" + v + ")", x.sample(v), o.sample(v));
            case 13 -> due("value(" + f + ")", x.value(f), o.value(f));
            case 14 -> {
                int index = roughly(x.count(4));
                due("corner(" + index + ", " + v + ")", x.corner(index, v), o.corner(index, v));
            }
            default -> {
                int index = roughly(x.count(5));
                due("whole(" + index + ", " + v + ")", x.whole(index, v), o.whole(index, v));
            }
        }
        if (agree) {
            results();
        }
    }

    private void look() {
        int f = roughly(x.count(1) - 1);
        int v = roughly(x.count(0) - 1);
        int k = roughly(x.count(2) - 1);
        int what = roughly(2);
        int counted = roughly(6);
        due("coefficient(" + f + ", " + v + ")", x.coefficient(f, v), o.coefficient(f, v));
        due("bound(" + k + ", " + what + ")", x.bound(k, what), o.bound(k, what));
        due("count(" + counted + ")", x.count(counted), o.count(counted));
    }

    private void run() {
        if (random.nextInt(8) > 0) {
            read();
        }
        while (calls < 500 && agree) {
            int dice = random.nextInt(200);
            if (dice == 0 && calls < 300) {
                read();
            } else if (dice < 60) {
                change();
            } else if (dice < 180) {
                query();
            } else {
                look();
            }
        }
    }

    public static void main(String[] args) {
        int runs = args.length > 0 ? Integer.parseInt(args[0]) : 400;
        long start = args.length > 1 ? Long.parseLong(args[1]) : 1;
        for (long seed = start; seed < start + runs; seed++) {
            new RandomRunsTest(seed).run();
        }
        System.out.println(runs + " random runs, " + wrong + " with a wrong answer");
        if (wrong != 0) {
            System.exit(1);
        }
    }
}
