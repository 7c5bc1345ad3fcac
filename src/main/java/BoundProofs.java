/**
 * A solver for conjunctions of linear constraints over the rational numbers, strict ones included.
 *
 * <p>Everything rests on one fact: a smallest unsatisfiable set of constraints has forms that are
 * dependent in exactly one way up to a factor (a circuit). With at most three variables a circuit has
 * at most four members, so all of them can be looked at one by one, and every query is a question
 * about circuits.
 */
public final class BoundProofs {
    public static final int BAD = -1, STATE = -2, FULL = -3, NONE = -9;

    private static final int MOST_VARIABLES = 3;
    private static final int MOST_FORMS = 8;
    private static final int MOST_CONSTRAINTS = 10;
    private static final int MOST_LEVELS = 4;
    private static final int MOST_LETTERS = 90;
    private static final int MOST_COEFFICIENT = 3;
    private static final int MOST_NUMBER = 50;
    private static final int SMALL_INTEGER = 4;
    private static final int IMAGES = 2;

    private static final int AT_MOST = 0, LESS = 1, AT_LEAST = 2, GREATER = 3, EQUAL = 4;

    /** A query denies a constraint by at most two rows beside those of the constraints. */
    private static final int MOST_ROWS = MOST_CONSTRAINTS + 2;
    /** A circuit in three variables. */
    private static final int MOST_MEMBERS = MOST_VARIABLES + 1;
    /** The sets of two, three or four among twelve rows are 66 + 220 + 495. */
    private static final int MOST_CLASHES = 781;
    /** The sets of three among ten constraints. */
    private static final int MOST_CORNERS = 120;

    private final Problem problem = new Problem();
    /** What a text says, until it is known to be free of errors. */
    private final Problem draft = new Problem();
    private final Problem[] images = {new Problem(), new Problem()};
    private final boolean[] saved = new boolean[IMAGES];
    private final Reader reader = new Reader();
    private final Clashes clashes = new Clashes();
    private final Circuit circuit = clashes.circuit;
    private final Rows rows = circuit.rows;
    private final Limit limit = new Limit();
    private final Sampler sampler = new Sampler();
    private final Corners corners = new Corners();
    private final Grid grid = new Grid();

    private long numerator = 0;
    private long denominator = 1;
    private long lastTold = 0;

    public BoundProofs() {
    }

    // ---- texts, forms

    public int type(int letter) {
        if (letter < 0 || letter > 255) {
            return BAD;
        }
        return reader.append(letter) ? reader.size : FULL;
    }

    public int clear() {
        int had = reader.size;
        reader.size = 0;
        return had;
    }

    public int tells() {
        int answer = reader.read(draft);
        if (answer < 0) {
            return answer;
        }
        reader.size = 0;
        for (int i = 0; i < saved.length; i++) {
            saved[i] = false;
        }
        problem.copy(draft);
        loadRows();
        return answer;
    }

    public int form(int a, int b, int c) {
        if (!problem.allowsForm(a, b, c)) {
            return BAD;
        }
        return problem.addForm(a, b, c) ? problem.forms - 1 : FULL;
    }

    public int coefficient(int f, int v) {
        if (!problem.hasForm(f) || !problem.hasVariable(v)) {
            return BAD;
        }
        return problem.entry(f, v) + 10;
    }

    // ---- constraints, levels

    public int asserts(int f, int sort, int number) {
        if (!problem.allowsConstraint(f, sort, number)) {
            return BAD;
        }
        if (!problem.addConstraint(f, sort, number)) {
            return FULL;
        }
        pushRow(f, sort, number);
        return problem.constraints - 1;
    }

    public int bound(int k, int what) {
        if (!problem.hasConstraint(k) || what < 0 || what > 2) {
            return BAD;
        }
        if (what == 0) {
            return problem.formOf[k];
        }
        return what == 1 ? problem.sortOf[k] : problem.numberOf[k] + 100;
    }

    public int level() {
        if (problem.levels >= MOST_LEVELS) {
            return FULL;
        }
        problem.began[problem.levels] = problem.constraints;
        problem.levels++;
        return problem.levels;
    }

    public int withdraws(int n) {
        if (n < 1 || n > problem.levels) {
            return BAD;
        }
        problem.levels -= n;
        problem.constraints = problem.began[problem.levels];
        rows.cut(problem.constraints);
        return problem.constraints;
    }

    public int met() {
        return satisfiable() ? 1 : 0;
    }

    // ---- unsatisfiable sets

    public int core() {
        return satisfiable() ? 0 : coreSet();
    }

    public int proof(int k) {
        if (!problem.hasConstraint(k)) {
            return BAD;
        }
        if (satisfiable()) {
            return STATE;
        }
        int core = coreSet();
        lastTold = circuit.examine(core) ? circuit.reducedFactor(k) : 0;
        return core >> k & 1;
    }

    public int relief(int k) {
        if (!problem.hasConstraint(k)) {
            return BAD;
        }
        if (clashes.within(allConstraints() & ~(1 << k))) {
            return NONE;
        }
        limit.begin(0);
        for (int i = 0; i < clashes.size(); i++) {
            if (circuit.examine(clashes.set[i])) {
                limit.lowerTo(circuit.sum, Math.abs(circuit.factorOf(k)), circuit.strict);
            }
        }
        find(-limit.top, limit.bottom);
        return limit.open ? 0 : 1;
    }

    public int spared(int what) {
        if (what < 0 || what > 1) {
            return BAD;
        }
        int all = allConstraints();
        int fewest = all;
        for (int set = 0; set < all; set++) {
            if (Integer.bitCount(set) < Integer.bitCount(fewest) && !clashes.within(all & ~set)) {
                fewest = set;
            }
        }
        return what == 0 ? Integer.bitCount(fewest) : fewest;
    }

    // ---- ranges, entailment

    public int range(int f, int what) {
        if (!problem.hasForm(f) || what < 0 || what > 1) {
            return BAD;
        }
        if (!satisfiable()) {
            return STATE;
        }
        int turn = what == 0 ? -1 : 1;
        limit.seek(circuit, turn * problem.entry(f, 0), turn * problem.entry(f, 1), turn * problem.entry(f, 2));
        if (!limit.there) {
            return NONE;
        }
        find(turn * limit.top, limit.bottom);
        return limit.open ? 0 : 1;
    }

    public int follows(int f, int sort, int number) {
        if (!problem.allowsConstraint(f, sort, number)) {
            return BAD;
        }
        deny(f, sort, number);
        int answer = followsFrom(allConstraints()) ? 1 : 0;
        rows.cut(problem.constraints);
        return answer;
    }

    public int since(int f, int sort, int number) {
        if (!problem.allowsConstraint(f, sort, number)) {
            return BAD;
        }
        deny(f, sort, number);
        int answer = NONE;
        for (int m = 0; m <= problem.constraints && answer == NONE; m++) {
            if (followsFrom((1 << m) - 1)) {
                answer = m;
            }
        }
        rows.cut(problem.constraints);
        return answer;
    }

    public int why(int f, int sort, int number) {
        if (!problem.allowsConstraint(f, sort, number)) {
            return BAD;
        }
        deny(f, sort, number);
        int left = allConstraints();
        boolean holds = followsFrom(left);
        for (int k = problem.constraints - 1; k >= 0 && holds; k--) {
            if (followsFrom(left & ~(1 << k))) {
                left &= ~(1 << k);
            }
        }
        rows.cut(problem.constraints);
        return holds ? left : NONE;
    }

    // ---- points

    public int sample(int v) {
        if (!problem.hasVariable(v)) {
            return BAD;
        }
        if (!satisfiable()) {
            return STATE;
        }
        sampler.choose(rows, problem.variables);
        find(sampler.top[v], sampler.bottom[v]);
        return 1;
    }

    public int value(int f) {
        if (!problem.hasForm(f)) {
            return BAD;
        }
        if (!satisfiable()) {
            return STATE;
        }
        sampler.choose(rows, problem.variables);
        find(0, 1);
        for (int v = 0; v < MOST_VARIABLES; v++) {
            addToFound(problem.entry(f, v) * sampler.top[v], sampler.bottom[v]);
        }
        return 1;
    }

    public int corner(int k, int v) {
        if (k < 0 || !problem.hasVariable(v)) {
            return BAD;
        }
        corners.collect(rows, problem.variables);
        if (k >= corners.size) {
            return NONE;
        }
        find(corners.top[k * MOST_VARIABLES + v], corners.bottom[k]);
        return 1;
    }

    public int whole(int k, int v) {
        if (k < 0 || !problem.hasVariable(v)) {
            return BAD;
        }
        if (grid.search(rows, problem.variables, k) <= k) {
            return NONE;
        }
        lastTold = grid.point[v];
        return 1;
    }

    // ---- results

    public long upper() {
        return numerator;
    }

    public long lower() {
        return denominator;
    }

    public long told() {
        return lastTold;
    }

    // ---- saved states, counts

    public int keep(int image) {
        if (image < 0 || image >= IMAGES) {
            return BAD;
        }
        images[image].copy(problem);
        saved[image] = true;
        return problem.constraints;
    }

    public int back(int image) {
        if (image < 0 || image >= IMAGES) {
            return BAD;
        }
        if (!saved[image]) {
            return STATE;
        }
        problem.copy(images[image]);
        loadRows();
        return problem.constraints;
    }

    public int count(int what) {
        switch (what) {
            case 0:
                return problem.variables;
            case 1:
                return problem.forms;
            case 2:
                return problem.constraints;
            case 3:
                return problem.levels;
            case 4:
                corners.collect(rows, problem.variables);
                return corners.size;
            case 5:
                return grid.search(rows, problem.variables, Integer.MAX_VALUE);
            case 6:
                return reader.size;
            default:
                return BAD;
        }
    }

    // ---- what the methods above share

    private int allConstraints() {
        return (1 << problem.constraints) - 1;
    }

    private boolean satisfiable() {
        return !clashes.within(allConstraints());
    }

    private int coreSet() {
        int left = allConstraints();
        for (int k = problem.constraints - 1; k >= 0; k--) {
            if (clashes.within(left & ~(1 << k))) {
                left &= ~(1 << k);
            }
        }
        return left;
    }

    private void pushRow(int f, int sort, int number) {
        rows.push(problem.entry(f, 0), problem.entry(f, 1), problem.entry(f, 2), number, sort);
        clashes.extend();
    }

    private void loadRows() {
        rows.restart(problem.variables);
        for (int k = 0; k < problem.constraints; k++) {
            pushRow(problem.formOf[k], problem.sortOf[k], problem.numberOf[k]);
        }
    }

    /** Adds the rows of which one holds wherever the constraint does not; the caller cuts them off again. */
    private void deny(int f, int sort, int number) {
        if (sort == AT_MOST || sort == EQUAL) {
            pushRow(f, GREATER, number);
        }
        if (sort == AT_LEAST || sort == EQUAL) {
            pushRow(f, LESS, number);
        }
        if (sort == LESS) {
            pushRow(f, AT_LEAST, number);
        }
        if (sort == GREATER) {
            pushRow(f, AT_MOST, number);
        }
    }

    /** Whether the denied constraint follows from a set: each of the rows that deny it must clash with the set. */
    private boolean followsFrom(int set) {
        for (int i = problem.constraints; i < rows.size; i++) {
            if (!clashes.within(set | 1 << i)) {
                return false;
            }
        }
        return true;
    }

    /** Makes a number, whose denominator is above 0, the latest one found. */
    private void find(long top, long bottom) {
        long common = commonDivisor(top, bottom);
        numerator = common > 1 ? top / common : top;
        denominator = common > 1 ? bottom / common : bottom;
    }

    private void addToFound(long top, long bottom) {
        long common = commonDivisor(denominator, bottom);
        if (common > 0) {
            long times = bottom / common;
            find(numerator * times + top * (denominator / common), denominator * times);
        }
    }

    /** The greatest common divisor, not negative. */
    private static long commonDivisor(long one, long other) {
        long a = Math.abs(one);
        long b = Math.abs(other);
        // Euclid's steps on longs are fewer than 100.
        for (int i = 0; i < 100 && b != 0; i++) {
            long rest = a % b;
            a = b;
            b = rest;
        }
        return a;
    }

    /** The number of variables, the forms, constraints and levels: what can be saved. */
    private static final class Problem {
        int variables = 2;
        int forms = 0;
        int constraints = 0;
        int levels = 0;
        final int[] coefficients = new int[MOST_FORMS * MOST_VARIABLES];
        final int[] formOf = new int[MOST_CONSTRAINTS];
        final int[] sortOf = new int[MOST_CONSTRAINTS];
        final int[] numberOf = new int[MOST_CONSTRAINTS];
        final int[] began = new int[MOST_LEVELS];

        void reset() {
            variables = 2;
            forms = 0;
            constraints = 0;
            levels = 0;
        }

        void copy(Problem from) {
            variables = from.variables;
            forms = from.forms;
            constraints = from.constraints;
            levels = from.levels;
            System.arraycopy(from.coefficients, 0, coefficients, 0, coefficients.length);
            System.arraycopy(from.formOf, 0, formOf, 0, formOf.length);
            System.arraycopy(from.sortOf, 0, sortOf, 0, sortOf.length);
            System.arraycopy(from.numberOf, 0, numberOf, 0, numberOf.length);
            System.arraycopy(from.began, 0, began, 0, began.length);
        }

        boolean hasVariable(int v) {
            return v >= 0 && v < variables;
        }

        boolean hasForm(int f) {
            return f >= 0 && f < forms;
        }

        boolean hasConstraint(int k) {
            return k >= 0 && k < constraints;
        }

        boolean allowsForm(int a, int b, int c) {
            if (!allowsCoefficient(0, a) || !allowsCoefficient(1, b) || !allowsCoefficient(2, c)) {
                return false;
            }
            return a != 0 || b != 0 || c != 0;
        }

        private boolean allowsCoefficient(int v, int number) {
            if (v >= variables) {
                return number == 0;
            }
            return number >= -MOST_COEFFICIENT && number <= MOST_COEFFICIENT;
        }

        boolean allowsConstraint(int f, int sort, int number) {
            return hasForm(f) && sort >= AT_MOST && sort <= EQUAL && number >= -MOST_NUMBER && number <= MOST_NUMBER;
        }

        /** A coefficient of a form; 0 for a variable or a form that does not exist. */
        int entry(int f, int v) {
            return hasForm(f) && hasVariable(v) ? coefficients[f * MOST_VARIABLES + v] : 0;
        }

        boolean addForm(int a, int b, int c) {
            if (forms >= MOST_FORMS) {
                return false;
            }
            coefficients[forms * MOST_VARIABLES] = a;
            coefficients[forms * MOST_VARIABLES + 1] = b;
            coefficients[forms * MOST_VARIABLES + 2] = c;
            forms++;
            return true;
        }

        boolean addConstraint(int f, int sort, int number) {
            if (constraints >= MOST_CONSTRAINTS) {
                return false;
            }
            formOf[constraints] = f;
            sortOf[constraints] = sort;
            numberOf[constraints] = number;
            constraints++;
            return true;
        }
    }

    /** The text, and how it is read. */
    private static final class Reader {
        /** Kinds of tokens that are no single letter or sign. */
        private static final int NUMBER = -1, END = -2, WRONG = -3;
        /** Stands for every number that is too large to be allowed anywhere. */
        private static final int TOO_LARGE = 1000;

        final int[] letters = new int[MOST_LETTERS];
        int size = 0;

        /** The token that is looked at: its kind, its first index, the index behind it, and its number if it is one. */
        private int kind;
        private int at;
        private int behind;
        private int number;
        private final int[] total = new int[MOST_VARIABLES];

        boolean append(int letter) {
            if (size >= MOST_LETTERS) {
                return false;
            }
            letters[size] = letter;
            size++;
            return true;
        }

        /** Reads the whole text; the answer is the number of items, or -10 minus the error position. */
        int read(Problem into) {
            into.reset();
            behind = 0;
            step();
            int items = 0;
            boolean right = true;
            // Each item takes a letter at least.
            while (items < MOST_LETTERS && kind != END && right) {
                if (kind == 'n' && items == 0) {
                    right = readVariables(into);
                } else if (kind == 'f' && into.forms < MOST_FORMS) {
                    right = readForm(into);
                } else if (kind == 'b' && into.constraints < MOST_CONSTRAINTS) {
                    right = readConstraint(into);
                } else {
                    right = false;
                }
                items++;
            }
            return right ? items : -10 - at;
        }

        /** Goes on to the next token; that of the end stands at the length of the text. */
        private void step() {
            at = behind;
            while (at < size && letters[at] == ' ') {
                at++;
            }
            behind = at + 1;
            if (at >= size) {
                behind = size;
                kind = END;
            } else if (isDigit(letters[at])) {
                readNumber();
            } else {
                kind = isToken(letters[at]) ? letters[at] : WRONG;
            }
        }

        private static boolean isDigit(int letter) {
            return letter >= '0' && letter <= '9';
        }

        private static boolean isToken(int letter) {
            boolean variable = letter == 'a' || letter == 'b' || letter == 'c';
            return variable || letter == 'n' || letter == 'f' || letter == '+' || letter == '-' || letter == ';';
        }

        private void readNumber() {
            number = 0;
            behind = at;
            while (behind < size && isDigit(letters[behind])) {
                number = Math.min(TOO_LARGE, number * 10 + letters[behind] - '0');
                behind++;
            }
            kind = letters[at] == '0' && behind - at > 1 ? WRONG : NUMBER;
        }

        private boolean isNumber(int least, int most) {
            return kind == NUMBER && number >= least && number <= most;
        }

        /** This and the following stop at the token that is not allowed, and answer false then. */
        private boolean readSemicolon() {
            if (kind != ';') {
                return false;
            }
            step();
            return true;
        }

        private boolean readVariables(Problem into) {
            step();
            if (!isNumber(1, MOST_VARIABLES)) {
                return false;
            }
            into.variables = number;
            step();
            return readSemicolon();
        }

        private boolean readForm(Problem into) {
            step();
            for (int v = 0; v < total.length; v++) {
                total[v] = 0;
            }
            boolean more = true;
            // Each term takes a letter at least.
            for (int i = 0; i < MOST_LETTERS && more; i++) {
                if (!readTerm(into)) {
                    return false;
                }
                more = kind == '+' || kind == '-';
            }
            if (kind != ';' || !into.allowsForm(total[0], total[1], total[2])) {
                return false;
            }
            into.addForm(total[0], total[1], total[2]);
            return readSemicolon();
        }

        private boolean readTerm(Problem into) {
            int factor = kind == '-' ? -1 : 1;
            if (kind == '+' || kind == '-') {
                step();
            }
            if (isNumber(1, MOST_COEFFICIENT)) {
                factor *= number;
                step();
            }
            int v = kind - 'a';
            if (!into.hasVariable(v) || v >= total.length) {
                return false;
            }
            total[v] += factor;
            step();
            return true;
        }

        private boolean readConstraint(Problem into) {
            step();
            if (!isNumber(0, into.forms - 1)) {
                return false;
            }
            int f = number;
            step();
            if (!isNumber(AT_MOST, EQUAL)) {
                return false;
            }
            int sort = number;
            step();
            int sign = kind == '-' ? -1 : 1;
            if (kind == '-') {
                step();
            }
            if (!isNumber(0, MOST_NUMBER)) {
                return false;
            }
            into.addConstraint(f, sort, sign * number);
            step();
            return readSemicolon();
        }
    }

    /**
     * Constraints in one shape: a form is at most a number, or less than it in a strict row, or equal to
     * it in an equal row. Forms and numbers of the relations "at least" and "greater" are negated.
     */
    private static final class Rows {
        final int[] coefficients = new int[MOST_ROWS * MOST_VARIABLES];
        final long[] right = new long[MOST_ROWS];
        final boolean[] strict = new boolean[MOST_ROWS];
        final boolean[] equal = new boolean[MOST_ROWS];
        int size = 0;
        /** How many variables the rows have; a circuit has at most one member more. */
        int variables = 2;

        void restart(int ofVariables) {
            size = 0;
            variables = ofVariables;
        }

        void push(int a, int b, int c, long number, int sort) {
            if (size >= MOST_ROWS) {
                return;
            }
            int turn = sort == AT_LEAST || sort == GREATER ? -1 : 1;
            coefficients[size * MOST_VARIABLES] = turn * a;
            coefficients[size * MOST_VARIABLES + 1] = turn * b;
            coefficients[size * MOST_VARIABLES + 2] = turn * c;
            right[size] = turn * number;
            strict[size] = sort == LESS || sort == GREATER;
            equal[size] = sort == EQUAL;
            size++;
        }

        /** Keeps the first rows only. */
        void cut(int left) {
            if (left >= 0 && left < size) {
                size = left;
            }
        }

        void copy(Rows from) {
            size = from.size;
            variables = from.variables;
            System.arraycopy(from.coefficients, 0, coefficients, 0, coefficients.length);
            System.arraycopy(from.right, 0, right, 0, right.length);
            for (int i = 0; i < MOST_ROWS; i++) {
                strict[i] = from.strict[i];
                equal[i] = from.equal[i];
            }
        }

        /** A coefficient of a row; 0 for a row or a variable that does not exist. */
        int entry(int row, int v) {
            if (row < 0 || row >= size || v < 0 || v >= MOST_VARIABLES) {
                return 0;
            }
            return coefficients[row * MOST_VARIABLES + v];
        }

        /**
         * Whether a point, given by numerators over one denominator above 0, satisfies all rows; if closed,
         * strict rows are taken as not strict.
         */
        boolean hold(long a, long b, long c, long bottom, boolean closed) {
            for (int i = 0; i < size; i++) {
                int p = i * MOST_VARIABLES;
                long left = coefficients[p] * a + coefficients[p + 1] * b + coefficients[p + 2] * c;
                long most = right[i] * bottom;
                if (left > most || left < most && equal[i] || left == most && strict[i] && !closed) {
                    return false;
                }
            }
            return true;
        }

        /** The part v of the cross product of two rows' forms. */
        int cross(int i, int j, int v) {
            if (i < 0 || i >= size || j < 0 || j >= size || v < 0 || v >= MOST_VARIABLES) {
                return 0;
            }
            int next = v == 2 ? 0 : v + 1;
            int third = v == 0 ? 2 : v - 1;
            int p = i * MOST_VARIABLES;
            int q = j * MOST_VARIABLES;
            return coefficients[p + next] * coefficients[q + third] - coefficients[p + third] * coefficients[q + next];
        }

        /** The determinant of three rows' forms. */
        int determinant(int i, int j, int k) {
            if (i < 0 || i >= size || j < 0 || j >= size || k < 0 || k >= size) {
                return 0;
            }
            int[] m = coefficients;
            int p = i * MOST_VARIABLES;
            int q = j * MOST_VARIABLES;
            int r = k * MOST_VARIABLES;
            return m[p] * (m[q + 1] * m[r + 2] - m[q + 2] * m[r + 1])
                    + m[p + 1] * (m[q + 2] * m[r] - m[q] * m[r + 2])
                    + m[p + 2] * (m[q] * m[r + 1] - m[q + 1] * m[r]);
        }
    }

    /**
     * A set of rows whose forms, times factors none of which is 0, add up to the form with only zeros in
     * one way up to a common factor. It counts only if the factors of rows that are not equal rows can all
     * be above 0 at once.
     */
    private static final class Circuit {
        final Rows rows = new Rows();
        private final int[] member = new int[MOST_MEMBERS];
        private final int[] factor = new int[MOST_MEMBERS];
        private int size = 0;
        /** The right sides times the factors, added up. */
        long sum = 0;
        /** Whether a strict row is among them. */
        boolean strict = false;

        /** Whether the set is such a circuit; its factors and sum are known then. */
        boolean examine(int set) {
            if (Integer.bitCount(set) > MOST_MEMBERS) {
                return false;
            }
            size = 0;
            for (int i = 0; i < rows.size && size < MOST_MEMBERS; i++) {
                if ((set >> i & 1) != 0) {
                    member[size] = i;
                    size++;
                }
            }
            if (size == 2) {
                return dependTwo(member[0], member[1]) && turn();
            }
            if (size == 3) {
                return dependThree(member[0], member[1], member[2]) && turn();
            }
            return size == 4 && dependFour(member[0], member[1], member[2], member[3]) && turn();
        }

        private boolean setFactors(int first, int second, int third, int fourth) {
            factor[0] = first;
            factor[1] = second;
            factor[2] = third;
            factor[3] = fourth;
            for (int i = 0; i < size; i++) {
                if (factor[i] == 0) {
                    return false;
                }
            }
            return true;
        }

        private boolean dependTwo(int i, int j) {
            if (rows.cross(i, j, 0) != 0 || rows.cross(i, j, 1) != 0 || rows.cross(i, j, 2) != 0) {
                return false;
            }
            for (int v = 0; v < MOST_VARIABLES; v++) {
                if (rows.entry(i, v) != 0) {
                    return setFactors(rows.entry(j, v), -rows.entry(i, v), 0, 0);
                }
            }
            return false;
        }

        /** Three forms in a plane: seen along an axis that is not in the plane, they depend as their areas say. */
        private boolean dependThree(int i, int j, int k) {
            if (rows.determinant(i, j, k) != 0) {
                return false;
            }
            for (int v = 0; v < MOST_VARIABLES; v++) {
                if (rows.cross(i, j, v) != 0) {
                    return setFactors(rows.cross(j, k, v), rows.cross(k, i, v), rows.cross(i, j, v), 0);
                }
            }
            return false;
        }

        private boolean dependFour(int i, int j, int k, int l) {
            int last = rows.determinant(i, j, k);
            if (last == 0) {
                return false;
            }
            return setFactors(rows.determinant(j, k, l), -rows.determinant(i, k, l), rows.determinant(i, j, l), -last);
        }

        /** Chooses the sign of all factors; if all rows are equal rows, the one that makes the sum no more than 0. */
        private boolean turn() {
            sum = 0;
            strict = false;
            boolean above = false;
            boolean below = false;
            for (int i = 0; i < size; i++) {
                int row = member[i];
                sum += factor[i] * rows.right[row];
                strict |= rows.strict[row];
                above |= !rows.equal[row] && factor[i] > 0;
                below |= !rows.equal[row] && factor[i] < 0;
            }
            if (below || !above && sum > 0) {
                sum = -sum;
                for (int i = 0; i < size; i++) {
                    factor[i] = -factor[i];
                }
            }
            return !(above && below);
        }

        /** Whether no point satisfies its rows. */
        boolean contradicts() {
            return sum < 0 || sum == 0 && strict;
        }

        /** The factor of a row; 0 if it is no member. */
        int factorOf(int row) {
            for (int i = 0; i < size; i++) {
                if (member[i] == row) {
                    return factor[i];
                }
            }
            return 0;
        }

        /** The factor of a row when no integer above 1 divides all factors. */
        long reducedFactor(int row) {
            long common = 0;
            for (int i = 0; i < size; i++) {
                common = commonDivisor(common, factor[i]);
            }
            return common > 0 ? factorOf(row) / common : 0;
        }
    }

    /** The smallest unsatisfiable sets of the rows, those of the first rows first. */
    private static final class Clashes {
        final Circuit circuit = new Circuit();
        private final Rows rows = circuit.rows;
        final int[] set = new int[MOST_CLASHES];
        /** How many sets there are among the first rows, for each number of rows. */
        private final int[] sizeAt = new int[MOST_ROWS + 1];

        int size() {
            return sizeAt[rows.size];
        }

        /** Adds the sets that the newest row belongs to; it must be called behind each new row. */
        void extend() {
            if (rows.size < 1) {
                return;
            }
            int known = sizeAt[rows.size - 1];
            int newest = 1 << rows.size - 1;
            for (int others = 1; others < newest; others++) {
                if (Integer.bitCount(others) <= rows.variables && known < MOST_CLASHES
                        && circuit.examine(others | newest) && circuit.contradicts()) {
                    set[known] = others | newest;
                    known++;
                }
            }
            sizeAt[rows.size] = known;
        }

        /** Whether a set of rows is unsatisfiable. */
        boolean within(int rowSet) {
            int known = size();
            for (int i = 0; i < known; i++) {
                if ((set[i] & ~rowSet) == 0) {
                    return true;
                }
            }
            return false;
        }
    }

    /** The least of several upper limits; it is open if one of the limits at this number is strict. */
    private static final class Limit {
        boolean there = false;
        long top = 0;
        /** Above 0. */
        long bottom = 1;
        boolean open = false;

        void begin(long number) {
            there = true;
            top = number;
            bottom = 1;
            open = false;
        }

        void lowerTo(long newTop, long newBottom, boolean strict) {
            long difference = newTop * bottom - top * newBottom;
            if (newBottom <= 0 || there && difference > 0) {
                return;
            }
            open = strict || there && difference == 0 && open;
            there = true;
            top = newTop;
            bottom = newBottom;
        }

        /**
         * Finds the supremum of a form over the points that satisfy the circuit's rows, which must be
         * satisfiable. A row says that the form is at least some number, and each circuit with this row
         * limits the number.
         */
        void seek(Circuit circuit, int a, int b, int c) {
            Rows rows = circuit.rows;
            begin(0);
            there = false;
            int last = rows.size;
            if (last >= MOST_ROWS) {
                return;
            }
            rows.push(a, b, c, 0, AT_LEAST);
            for (int others = 1; others < 1 << last; others++) {
                if (Integer.bitCount(others) <= rows.variables && circuit.examine(others | 1 << last)) {
                    lowerTo(circuit.sum, circuit.factorOf(last), circuit.strict);
                }
            }
            rows.cut(last);
        }
    }

    /** The sample point. */
    private static final class Sampler {
        private final Circuit circuit = new Circuit();
        /** The rows in the variables that have no number yet; their right sides are multiplied by scale. */
        private final Rows rest = circuit.rows;
        private long scale = 1;
        /** The suprema of a variable and of its negative. */
        private final Limit high = new Limit();
        private final Limit low = new Limit();
        private long foundTop = 0;
        private long foundBottom = 1;

        final long[] top = new long[MOST_VARIABLES];
        final long[] bottom = new long[MOST_VARIABLES];

        /** Finds the point for rows that are satisfiable; a variable that does not exist gets 0. */
        void choose(Rows rows, int variables) {
            rest.copy(rows);
            scale = 1;
            for (int v = 0; v < MOST_VARIABLES; v++) {
                foundTop = 0;
                foundBottom = 1;
                if (v < variables) {
                    rest.variables = variables - v;
                    seek(high, v, 1);
                    seek(low, v, -1);
                    pick();
                }
                top[v] = foundTop;
                bottom[v] = foundBottom;
                settle(v);
            }
        }

        private void seek(Limit limit, int v, int turn) {
            limit.seek(circuit, v == 0 ? turn : 0, v == 1 ? turn : 0, v == 2 ? turn : 0);
            limit.bottom *= scale;
        }

        /** Finds the simplest number that is within both limits. */
        private void pick() {
            if (reachesZero(high) && reachesZero(low)) {
                return;
            }
            if (reachesZero(high)) {
                descend(low, high);
            } else {
                descend(high, low);
                foundTop = -foundTop;
            }
        }

        private static boolean reachesZero(Limit limit) {
            return !limit.there || limit.top > 0 || limit.top == 0 && !limit.open;
        }

        /**
         * Finds the simplest number between two ends with only numbers above 0 between them; the lower end
         * is given with its sign turned. If there are integers, it is the smallest one of them. If not,
         * all numbers are the same integer plus 1/y, and the simplest one has the simplest y.
         */
        private void descend(Limit turnedLeast, Limit most) {
            long leastTop = -turnedLeast.top;
            long leastBottom = turnedLeast.bottom;
            boolean leastOpen = turnedLeast.open;
            long mostTop = most.top;
            long mostBottom = most.bottom;
            boolean mostOpen = most.open;
            boolean ends = most.there;
            // The number is (p y + q) / (r y + s).
            long p = 1;
            long q = 0;
            long r = 0;
            long s = 1;
            // The denominators shrink as in Euclid's algorithm, so 200 steps are never reached.
            for (int i = 0; i < 200 && leastBottom > 0; i++) {
                long first = leastOpen
                        ? Math.floorDiv(leastTop, leastBottom) + 1
                        : -Math.floorDiv(-leastTop, leastBottom);
                if (!ends || first * mostBottom < mostTop || first * mostBottom == mostTop && !mostOpen) {
                    foundTop = p * first + q;
                    foundBottom = r * first + s;
                    return;
                }
                long integer = first - 1;
                long leastRest = leastTop - integer * leastBottom;
                long mostRest = mostTop - integer * mostBottom;
                long oldP = p;
                long oldR = r;
                p = p * integer + q;
                q = oldP;
                r = r * integer + s;
                s = oldR;
                // y = 1 / (number - integer) turns the ends round.
                leastTop = mostBottom;
                mostTop = leastBottom;
                leastBottom = mostRest;
                mostBottom = leastRest;
                ends = leastRest > 0;
                boolean oldOpen = leastOpen;
                leastOpen = mostOpen;
                mostOpen = oldOpen;
            }
        }

        /** Puts the number of a variable into the rows. */
        private void settle(int v) {
            long common = commonDivisor(scale, bottom[v]);
            if (common <= 0 || bottom[v] <= 0) {
                return;
            }
            long times = bottom[v] / common;
            scale *= times;
            long unit = top[v] * (scale / bottom[v]);
            for (int i = 0; i < rest.size; i++) {
                rest.right[i] = rest.right[i] * times - rest.entry(i, v) * unit;
                rest.coefficients[i * MOST_VARIABLES + v] = 0;
            }
        }
    }

    /** The vertices, ordered by a, then b, then c. */
    private static final class Corners {
        int size = 0;
        final long[] top = new long[MOST_CORNERS * MOST_VARIABLES];
        final long[] bottom = new long[MOST_CORNERS];
        /** As many equations as there are variables that could exist. */
        private final Rows system = new Rows();
        private final long[] point = new long[MOST_VARIABLES];
        private long below = 1;

        void collect(Rows rows, int variables) {
            size = 0;
            for (int set = 1; set < 1 << rows.size; set++) {
                if (Integer.bitCount(set) == variables) {
                    equate(rows, set, variables);
                    if (solve() && rows.hold(point[0], point[1], point[2], below, true)) {
                        insert();
                    }
                }
            }
        }

        /** A variable that does not exist is made equal to 0, so that there are always three equations. */
        private void equate(Rows rows, int set, int variables) {
            system.restart(MOST_VARIABLES);
            for (int i = 0; i < rows.size; i++) {
                if ((set >> i & 1) != 0) {
                    system.push(rows.entry(i, 0), rows.entry(i, 1), rows.entry(i, 2), rows.right[i], EQUAL);
                }
            }
            for (int v = variables; v < MOST_VARIABLES; v++) {
                system.push(v == 0 ? 1 : 0, v == 1 ? 1 : 0, v == 2 ? 1 : 0, 0, EQUAL);
            }
        }

        /** Cramer's rule, written with cross products. */
        private boolean solve() {
            below = system.determinant(0, 1, 2);
            if (below == 0) {
                return false;
            }
            for (int v = 0; v < MOST_VARIABLES; v++) {
                point[v] = system.right[0] * system.cross(1, 2, v) + system.right[1] * system.cross(2, 0, v)
                        + system.right[2] * system.cross(0, 1, v);
            }
            if (below < 0) {
                below = -below;
                for (int v = 0; v < MOST_VARIABLES; v++) {
                    point[v] = -point[v];
                }
            }
            return true;
        }

        private void insert() {
            int place = size;
            while (place > 0 && compareWith(place - 1) < 0) {
                place--;
            }
            if (size >= MOST_CORNERS || place > 0 && compareWith(place - 1) == 0) {
                return;
            }
            for (int i = size; i > place; i--) {
                bottom[i] = bottom[i - 1];
                for (int v = 0; v < MOST_VARIABLES; v++) {
                    top[i * MOST_VARIABLES + v] = top[(i - 1) * MOST_VARIABLES + v];
                }
            }
            bottom[place] = below;
            System.arraycopy(point, 0, top, place * MOST_VARIABLES, MOST_VARIABLES);
            size++;
        }

        /** Below 0 if the new point comes before a vertex that is known, 0 if it is this vertex. */
        private int compareWith(int known) {
            for (int v = 0; v < MOST_VARIABLES; v++) {
                int order = Long.compare(point[v] * bottom[known], top[known * MOST_VARIABLES + v] * below);
                if (order != 0) {
                    return order;
                }
            }
            return 0;
        }
    }

    /** The small integer solutions. */
    private static final class Grid {
        final int[] point = new int[MOST_VARIABLES];

        /**
         * Looks for solution k, whose point is known if there is one. The answer is how many solutions were
         * seen until then, which is k + 1 or, if there is no solution k, how many there are.
         */
        int search(Rows rows, int variables, int k) {
            int seen = 0;
            int mostB = variables > 1 ? SMALL_INTEGER : 0;
            int mostC = variables > 2 ? SMALL_INTEGER : 0;
            for (int a = -SMALL_INTEGER; a <= SMALL_INTEGER; a++) {
                for (int b = -mostB; b <= mostB; b++) {
                    for (int c = -mostC; c <= mostC; c++) {
                        if (seen <= k && rows.hold(a, b, c, 1, false)) {
                            seen++;
                            point[0] = a;
                            point[1] = b;
                            point[2] = c;
                        }
                    }
                }
            }
            return seen;
        }
    }
}
