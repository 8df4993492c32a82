import java.util.Arrays;

/**
 * Formulas of linear inequalities over fractions, with quantifiers: read, made positive, freed of
 * their quantifiers by test points, written, and held against fractions.
 */
public final class LinearTruths {
    public static final int NONE = -1, GREAT = -2;

    private static final int VARIABLES = 8;
    private static final int TEXT_MOST = 240;
    private static final int OPEN_MOST = 20;
    private static final int NODES_MOST = 400;
    private static final int NUMBER_MOST = 1_000_000_000;
    private static final int KEPT_MOST = 12_000;

    /** The kinds of NODES: that of a not differs in the lowest bit alone. */
    private static final int T = 0, F = 1, EQ = 2, NE = 3, LT = 4, LE = 5, AND = 6, OR = 7, EX = 8, ALL = 9;

    /** The numbers of an ATOM: those of a .. h, then the one without VARIABLE. */
    private static final int PLACES = VARIABLES + 1;

    /** A row has its kind and its numbers; the first number of E and A is their VARIABLE. */
    private static final int WIDTH = 1 + PLACES;

    /** A multiple of every number below a value's fraction stroke, 1 .. 9. */
    private static final int BELOW_MULTIPLE = 2520;

    private final Reader reader = new Reader();
    private final Freer freer = new Freer();
    private final Scribe scribe = new Scribe();
    private final Tree formula = new Tree(NODES_MOST);
    private final Tree copy = new Tree(NODES_MOST);
    private final int[] above = new int[VARIABLES];
    private final int[] below = new int[VARIABLES];
    private final int[] spans = new int[NODES_MOST];
    private final int[] found = new int[NODES_MOST];
    private int loose;

    public LinearTruths() {
        Arrays.fill(below, 1);
        formula.add(T);
    }

    public int type(long bytes, int n) throws IllegalArgumentException, UnsupportedOperationException {
        if (n < 0 || n > 8) {
            throw new IllegalArgumentException("n is not 0 .. 8");
        }
        if (reader.length + n > TEXT_MOST) {
            throw new UnsupportedOperationException("the text would have more than 240 bytes");
        }
        for (int k = 0; k < n; k++) {
            reader.take((byte) (bytes >>> (8 * k)));
        }
        return reader.length;
    }

    public int clear() {
        int had = reader.length;
        reader.length = 0;
        return had;
    }

    public int read() {
        int answer = reader.parse();
        if (answer == NONE) {
            become(reader.bench);
        }
        return answer;
    }

    public int free() {
        return loose;
    }

    public int frees() {
        if (!freer.run(formula)) {
            return GREAT;
        }
        become(freer.bench);
        return formula.rows;
    }

    public void value(int variable, int above, int below) throws IllegalArgumentException {
        if (variable < 0 || variable >= VARIABLES) {
            throw new IllegalArgumentException("no such variable");
        }
        if (above < -99 || above > 99) {
            throw new IllegalArgumentException("above is not -99 .. 99");
        }
        if (below < 1 || below > 9) {
            throw new IllegalArgumentException("below is not 1 .. 9");
        }
        this.above[variable] = above;
        this.below[variable] = below;
    }

    public int holds() throws IllegalStateException {
        if (formula.howMany(EX, ALL) > 0) {
            throw new IllegalStateException("the formula has E or A");
        }
        int rows = Math.min(formula.rows, NODES_MOST);
        formula.measure(spans);
        for (int row = 0; row < rows; row++) {
            found[row] = isTrue(row) ? 1 : 0;
        }
        return rows > 0 ? found[rows - 1] : 1;
    }

    public int decide() {
        copy.become(formula, 0, formula.rows);
        int open = loose;
        for (int variable = 0; variable < VARIABLES; variable++) {
            if ((open >> variable & 1) == 1) {
                if (!freer.putValue(copy, variable, above[variable], below[variable])) {
                    return GREAT;
                }
                open = freer.bench.lastLoose();
                copy.become(freer.bench.tree, 0, freer.bench.tree.rows);
            }
        }
        if (!freer.run(copy)) {
            return GREAT;
        }
        return freer.bench.lastKind() == T ? 1 : 0;
    }

    public int not() {
        formula.negate(0, formula.rows);
        return formula.rows;
    }

    public int told(int what) throws IllegalArgumentException {
        switch (what) {
            case 0:
                return formula.rows;
            case 1:
                return formula.howMany(EQ, LE);
            case 2:
                return formula.howMany(EX, ALL);
            case 3:
                return depth();
            case 4:
                return freer.pointsPut;
            case 5:
                return freer.takenOut;
            default:
                throw new IllegalArgumentException("what is not 0 .. 5");
        }
    }

    public int write() {
        scribe.put(formula);
        return scribe.length;
    }

    public long out(int i) {
        long eight = 0;
        for (int k = 0; k < 8; k++) {
            eight |= (long) scribe.letterAt((long) i + k) << (8 * k);
        }
        return eight;
    }

    public int pass() {
        int letters = Math.min(scribe.length, TEXT_MOST);
        reader.length = 0;
        for (int k = 0; k < letters; k++) {
            reader.take((byte) scribe.letterAt(k));
        }
        return reader.length;
    }

    /** Takes over the one formula that a bench holds. */
    private void become(Bench bench) {
        formula.become(bench.tree, 0, bench.tree.rows);
        loose = bench.lastLoose();
    }

    /** Whether a row holds with the values; those of its parts are found already. */
    private boolean isTrue(int row) {
        int kind = formula.kind(row);
        if (kind == T || kind == F) {
            return kind == T;
        }
        if (kind <= LE) {
            return Sum.isTrue(kind, sumWithValues(row));
        }
        int right = row - 1;
        int left = right >= 0 ? spans[right] - 1 : NONE;
        if (left < 0) {
            return false;
        }
        return kind == AND ? found[left] == 1 && found[right] == 1 : found[left] == 1 || found[right] == 1;
    }

    /** The sum of an ATOM with the values, times BELOW_MULTIPLE to be a whole number. */
    private long sumWithValues(int row) {
        long sum = (long) formula.number(row, VARIABLES) * BELOW_MULTIPLE;
        for (int variable = 0; variable < VARIABLES; variable++) {
            int under = Math.max(below[variable], 1);
            sum += (long) formula.number(row, variable) * above[variable] * (BELOW_MULTIPLE / under);
        }
        return sum;
    }

    private int depth() {
        int rows = Math.min(formula.rows, NODES_MOST);
        formula.measure(spans);
        for (int row = 0; row < rows; row++) {
            int kind = formula.kind(row);
            int right = row - 1;
            int left = kind == AND || kind == OR ? (right >= 0 ? spans[right] - 1 : NONE) : NONE;
            int under = kind >= AND && right >= 0 ? found[right] : 0;
            found[row] = 1 + Math.max(under, left >= 0 ? found[left] : 0);
        }
        return rows > 0 ? found[rows - 1] : 0;
    }

    /** Rows of formulas in postfix order: the parts of an AND, OR, E, A stand right before its row. */
    private static final class Tree {
        /**
         * Far above need: what is FREED and waits has 400 rows at most, and takes more than a dozen
         * bytes of a TEXT each, if it is more than one row.
         */
        private static final int ROWS_MOST = 10_000;

        private int[] cells;
        private int rows;

        Tree(int capacity) {
            cells = new int[Math.max(capacity, 1) * WIDTH];
        }

        int kind(int row) {
            return row >= 0 && row < rows ? cells[row * WIDTH] : F;
        }

        int number(int row, int place) {
            return row >= 0 && row < rows && place >= 0 && place < PLACES ? cells[row * WIDTH + 1 + place] : 0;
        }

        void setNumber(int row, int place, int number) {
            if (row >= 0 && row < rows && place >= 0 && place < PLACES) {
                cells[row * WIDTH + 1 + place] = number;
            }
        }

        /** Makes room for more rows; false if that would be too many. */
        boolean reserve(int more) {
            int wanted = rows + more;
            if (wanted > ROWS_MOST) {
                return false;
            }
            if (wanted * WIDTH > cells.length) {
                cells = Arrays.copyOf(cells, Math.min(2 * wanted, ROWS_MOST) * WIDTH);
            }
            return true;
        }

        /** Adds a row whose numbers are 0. */
        void add(int kind) {
            int start = rows * WIDTH;
            if (start + WIDTH <= cells.length) {
                Arrays.fill(cells, start, start + WIDTH, 0);
                cells[start] = kind;
                rows++;
            }
        }

        /** Adds rows of another tree. */
        void append(Tree other, int first, int end) {
            int more = end - first;
            if (first >= 0 && more >= 0 && end <= other.rows && (rows + more) * WIDTH <= cells.length) {
                System.arraycopy(other.cells, first * WIDTH, cells, rows * WIDTH, more * WIDTH);
                rows += more;
            }
        }

        void become(Tree other, int first, int end) {
            rows = 0;
            append(other, first, end);
        }

        void cut(int end) {
            if (end >= 0 && end < rows) {
                rows = end;
            }
        }

        /** The rows from a first one on come down in place of those from another one on. */
        void slide(int first, int to) {
            if (to < 0 || to > first || first > rows) {
                return;
            }
            System.arraycopy(cells, first * WIDTH, cells, to * WIDTH, (rows - first) * WIDTH);
            rows -= first - to;
        }

        void negate(int first, int end) {
            int stop = Math.min(end, rows);
            for (int row = Math.max(first, 0); row < stop; row++) {
                int start = row * WIDTH;
                int kind = cells[start];
                cells[start] = kind ^ 1;
                if (kind == LT || kind == LE) {
                    for (int cell = start + 1; cell < start + WIDTH; cell++) {
                        cells[cell] = -cells[cell];
                    }
                }
            }
        }

        /** Whether the rows left .. right - 1 are the same as those from right on. */
        boolean repeats(int left, int right) {
            if (left < 0 || right - left != rows - right) {
                return false;
            }
            int shift = (right - left) * WIDTH;
            for (int cell = right * WIDTH; cell < rows * WIDTH; cell++) {
                if (cells[cell] != cells[cell - shift]) {
                    return false;
                }
            }
            return true;
        }

        int howMany(int leastKind, int mostKind) {
            int count = 0;
            for (int row = 0; row < rows; row++) {
                int kind = cells[row * WIDTH];
                if (kind >= leastKind && kind <= mostKind) {
                    count++;
                }
            }
            return count;
        }

        /** For each row the first row of the tree that it is the top of. */
        void measure(int[] spans) {
            int stop = Math.min(rows, spans.length);
            for (int row = 0; row < stop; row++) {
                int kind = cells[row * WIDTH];
                int right = row - 1;
                if (kind < AND || right < 0) {
                    spans[row] = row;
                } else if (kind >= EX) {
                    spans[row] = spans[right];
                } else {
                    int left = spans[right] - 1;
                    spans[row] = left >= 0 ? spans[left] : 0;
                }
            }
        }
    }

    /** A sum that becomes an ATOM, or T or F. */
    private static final class Sum {
        /** More steps than Euclid's way takes with any two longs. */
        private static final int STEPS_MOST = 200;

        private final long[] numbers = new long[PLACES];

        static boolean isTrue(int relation, long sum) {
            switch (relation) {
                case EQ:
                    return sum == 0;
                case NE:
                    return sum != 0;
                case LT:
                    return sum < 0;
                default:
                    return sum <= 0;
            }
        }

        void empty() {
            Arrays.fill(numbers, 0L);
        }

        void add(int place, long number) {
            if (place >= 0 && place < PLACES) {
                numbers[place] += number;
            }
        }

        void turn() {
            for (int place = 0; place < PLACES; place++) {
                numbers[place] = -numbers[place];
            }
        }

        int bits() {
            int bits = 0;
            for (int variable = 0; variable < VARIABLES; variable++) {
                if (numbers[variable] != 0) {
                    bits |= 1 << variable;
                }
            }
            return bits;
        }

        /** The kind of what the sum and a relation are, its numbers brought into an ATOM's form; or GREAT. */
        int settle(int relation) {
            int first = 0;
            while (first < VARIABLES && numbers[first] == 0) {
                first++;
            }
            if (first == VARIABLES) {
                return isTrue(relation, numbers[VARIABLES]) ? T : F;
            }
            long divisor = commonDivisor();
            if (divisor > 1) {
                for (int place = 0; place < PLACES; place++) {
                    numbers[place] /= divisor;
                }
            }
            for (int place = 0; place < PLACES; place++) {
                if (Math.abs(numbers[place]) > NUMBER_MOST) {
                    return GREAT;
                }
            }
            if ((relation == EQ || relation == NE) && numbers[first] < 0) {
                turn();
            }
            return relation;
        }

        private long commonDivisor() {
            long divisor = 0;
            for (int place = 0; place < PLACES && divisor != 1; place++) {
                long rest = Math.abs(numbers[place]);
                for (int step = 0; step < STEPS_MOST && rest != 0; step++) {
                    long next = divisor % rest;
                    divisor = rest;
                    rest = next;
                }
            }
            return divisor;
        }
    }

    /** Formulas one behind the other in one tree; the last two are joined, the last one is bound. */
    private static final class Bench {
        /**
         * Far above need: what is read with quantifiers has some 80 parts at most, and a TEST POINT
         * adds those of what it is put in, some 200.
         */
        private static final int PARTS_MOST = NODES_MOST + 2;

        private final Tree tree;
        private final int[] starts = new int[PARTS_MOST];
        private final int[] looses = new int[PARTS_MOST];
        private int parts;

        Bench(int capacity) {
            tree = new Tree(capacity);
        }

        void begin() {
            tree.cut(0);
            parts = 0;
        }

        void push(int kind) {
            open(0);
            tree.add(kind);
        }

        void pushRow(Tree from, int row) {
            int bits = 0;
            for (int variable = 0; variable < VARIABLES; variable++) {
                if (from.number(row, variable) != 0) {
                    bits |= 1 << variable;
                }
            }
            open(bits);
            tree.append(from, row, row + 1);
        }

        /** Pushes what a sum has settled to be: T, F or an ATOM. */
        void pushSettled(Sum sum, int kind) {
            boolean isAtom = kind >= EQ;
            open(isAtom ? sum.bits() : 0);
            tree.add(kind);
            for (int place = 0; isAtom && place < PLACES; place++) {
                tree.setNumber(tree.rows - 1, place, (int) sum.numbers[place]);
            }
        }

        /** The SIMPLE AND or OR of the last two. */
        void join(int kind) {
            if (parts < 2) {
                return;
            }
            int ending = kind == AND ? F : T;
            int idle = kind == AND ? T : F;
            int left = starts[parts - 2];
            int right = starts[parts - 1];
            int leftKind = tree.kind(right - 1);
            int rightKind = lastKind();
            parts--;
            if (leftKind == ending || rightKind == idle || tree.repeats(left, right)) {
                tree.cut(right);
            } else if (rightKind == ending || leftKind == idle) {
                tree.slide(right, left);
                looses[parts - 1] = looses[parts];
            } else {
                looses[parts - 1] |= looses[parts];
                tree.add(kind);
            }
        }

        /** E or A of the last one, if the VARIABLE is FREE in it. */
        void bind(int kind, int variable) {
            if (parts < 1 || (looses[parts - 1] >> variable & 1) == 0) {
                return;
            }
            tree.add(kind);
            tree.setNumber(tree.rows - 1, 0, variable);
            looses[parts - 1] &= ~(1 << variable);
        }

        void negateLast() {
            if (parts > 0) {
                tree.negate(starts[parts - 1], tree.rows);
            }
        }

        void negateLastButOne() {
            if (parts > 1) {
                tree.negate(starts[parts - 2], starts[parts - 1]);
            }
        }

        void moveLast(Tree to) {
            if (parts > 0) {
                parts--;
                to.become(tree, starts[parts], tree.rows);
                tree.cut(starts[parts]);
            }
        }

        int lastKind() {
            return tree.kind(tree.rows - 1);
        }

        int lastLoose() {
            return parts > 0 ? looses[parts - 1] : 0;
        }

        int lastNodes() {
            return parts > 0 ? tree.rows - starts[parts - 1] : 0;
        }

        private void open(int bits) {
            if (parts < PARTS_MOST) {
                starts[parts] = tree.rows;
                looses[parts] = bits;
                parts++;
            }
        }
    }

    /** Holds the TEXT and reads it: what is open or waits for its right side stands on a stack. */
    private static final class Reader {
        /** A multiple of every number that may stand below a fraction stroke, 1 .. 12. */
        private static final int SCALE = 27_720;

        /** What waits beside the kinds AND, OR, E and A; a VARIABLE stands above the kind's bits. */
        private static final int ARROW = 10, PAREN = 11, NOT = 12, KIND_BITS = 4;

        /** How tightly what waits binds. */
        private static final int BY_ARROW = 1, BY_OR = 2, BY_AND = 3, BY_PREFIX = 4;

        private final byte[] bytes = new byte[TEXT_MOST];
        private final Bench bench = new Bench(TEXT_MOST);
        private final Sum sum = new Sum();
        private final int[] waiting = new int[TEXT_MOST];
        private int length;
        private int waits;
        private int at;
        private int opened;
        private int parens;
        private boolean great;

        void take(byte letter) {
            if (length < TEXT_MOST) {
                bytes[length] = letter;
                length++;
            }
        }

        /** NONE, the formula being on the bench; or the place of the FAULT; or GREAT. */
        int parse() {
            bench.begin();
            waits = 0;
            at = 0;
            opened = 0;
            parens = 0;
            great = false;
            for (int turn = 0; turn <= TEXT_MOST; turn++) {
                if (!openings() || !plainUnit() || !endings()) {
                    return at;
                }
                if (at >= length) {
                    return finish();
                }
                if (!connective()) {
                    return at;
                }
            }
            return at;
        }

        /** What stands in front of a unit; false, here and below: the FAULT is where we are. */
        private boolean openings() {
            for (int turn = 0; turn <= TEXT_MOST; turn++) {
                int letter = nextLetter();
                if (letter != '!' && letter != 'E' && letter != 'A' && letter != '(') {
                    return true;
                }
                if (opened >= OPEN_MOST) {
                    return false;
                }
                opened++;
                at++;
                if (letter == '!') {
                    await(NOT);
                } else if (letter == '(') {
                    parens++;
                    await(PAREN);
                } else if (!binder(letter == 'E' ? EX : ALL)) {
                    return false;
                }
            }
            return false;
        }

        private boolean binder(int kind) {
            int variable = variableOf(nextLetter());
            if (variable == NONE) {
                return false;
            }
            at++;
            if (nextLetter() != '.') {
                return false;
            }
            at++;
            await(kind | variable << KIND_BITS);
            return true;
        }

        private boolean plainUnit() {
            int letter = nextLetter();
            if (letter == 'T' || letter == 'F') {
                at++;
                bench.push(letter == 'T' ? T : F);
                return true;
            }
            return atom();
        }

        /** Ends the units that are whole now, and the parentheses that are closed behind them. */
        private boolean endings() {
            for (int turn = 0; turn <= TEXT_MOST; turn++) {
                carryOut(BY_PREFIX);
                if (nextLetter() != ')') {
                    return true;
                }
                if (parens == 0) {
                    return false;
                }
                carryOut(BY_ARROW);
                parens--;
                opened--;
                waits = Math.max(waits - 1, 0);
                at++;
            }
            return false;
        }

        private boolean connective() {
            int letter = nextLetter();
            if (letter == '&') {
                carryOut(BY_AND);
                await(AND);
            } else if (letter == '|') {
                carryOut(BY_OR);
                await(OR);
            } else if (letter == '-') {
                at++;
                if (letterAt(at) != '>') {
                    return false;
                }
                carryOut(BY_OR);
                await(ARROW);
            } else {
                return false;
            }
            at++;
            return true;
        }

        private int finish() {
            if (parens > 0) {
                return at;
            }
            carryOut(BY_ARROW);
            return great ? GREAT : NONE;
        }

        private void await(int what) {
            if (waits < TEXT_MOST) {
                waiting[waits] = what;
                waits++;
            }
        }

        /** Carries out what waits last, as long as it binds at least so tightly. */
        private void carryOut(int least) {
            for (int turn = 0; turn <= TEXT_MOST; turn++) {
                int what = waits > 0 ? waiting[waits - 1] : PAREN;
                int kind = what & (1 << KIND_BITS) - 1;
                if (tightness(kind) < least) {
                    return;
                }
                waits--;
                carryOutOne(kind, what >> KIND_BITS);
            }
        }

        private static int tightness(int kind) {
            switch (kind) {
                case PAREN:
                    return 0;
                case ARROW:
                    return BY_ARROW;
                case OR:
                    return BY_OR;
                case AND:
                    return BY_AND;
                default:
                    return BY_PREFIX;
            }
        }

        private void carryOutOne(int kind, int variable) {
            if (kind == AND || kind == OR) {
                bench.join(kind);
            } else if (kind == ARROW) {
                bench.negateLastButOne();
                bench.join(OR);
            } else {
                opened--;
                if (kind == NOT) {
                    bench.negateLast();
                } else {
                    bench.bind(kind, variable);
                }
            }
        }

        private boolean atom() {
            sum.empty();
            if (!side(1)) {
                return false;
            }
            int letter = nextLetter();
            if (letter != '<' && letter != '=' && letter != '!' && letter != '>') {
                return false;
            }
            at++;
            boolean equal = letter != '=' && letterAt(at) == '=';
            if (letter == '!' && !equal) {
                return false;
            }
            if (equal) {
                at++;
            }
            if (!side(-1)) {
                return false;
            }
            if (letter == '>') {
                sum.turn();
            }
            pushAtom(letter == '=' ? EQ : letter == '!' ? NE : equal ? LE : LT);
            return true;
        }

        /** GREAT is told only of a TEXT without a FAULT, so that reading goes on with something else. */
        private void pushAtom(int relation) {
            int kind = sum.settle(relation);
            great |= kind == GREAT;
            bench.pushSettled(sum, kind == GREAT ? T : kind);
        }

        /** A side of a relation, the right one with the sign -1. */
        private boolean side(int sign) {
            int factor = sign;
            if (nextLetter() == '-') {
                factor = -sign;
                at++;
            }
            for (int turn = 0; turn <= TEXT_MOST; turn++) {
                if (!item(factor)) {
                    return false;
                }
                int letter = nextLetter();
                boolean arrow = sign < 0 && letterAt(at + 1) == '>';
                if (letter != '+' && (letter != '-' || arrow)) {
                    return true;
                }
                factor = letter == '+' ? sign : -sign;
                at++;
            }
            return false;
        }

        private boolean item(int factor) {
            int letter = nextLetter();
            int variable = variableOf(letter);
            if (variable != NONE) {
                at++;
                sum.add(variable, (long) factor * SCALE);
                return true;
            }
            if (digitOf(letter) == NONE) {
                return false;
            }
            int whole = wholeNumber();
            int under = letterAt(at) == '/' ? numberBelow() : 1;
            if (under < 1) {
                return false;
            }
            variable = variableOf(nextLetter());
            if (variable != NONE) {
                at++;
            }
            sum.add(variable == NONE ? VARIABLES : variable, (long) factor * whole * (SCALE / under));
            return true;
        }

        private int wholeNumber() {
            int whole = 0;
            for (int digits = 0; digits < 4; digits++) {
                int digit = digitOf(letterAt(at));
                if (digit == NONE) {
                    break;
                }
                whole = 10 * whole + digit;
                at++;
            }
            return whole;
        }

        /** The / and 1 .. 12 behind it; or NONE. */
        private int numberBelow() {
            at++;
            int under = digitOf(letterAt(at));
            if (under < 1) {
                return NONE;
            }
            at++;
            int second = digitOf(letterAt(at));
            if (under == 1 && second >= 0 && second <= 2) {
                under = 10 + second;
                at++;
            }
            return under;
        }

        /** The letter behind the BLANKS, we being there then; NONE at the end. */
        private int nextLetter() {
            for (int turn = 0; turn < TEXT_MOST && letterAt(at) == ' '; turn++) {
                at++;
            }
            return letterAt(at);
        }

        private int letterAt(int place) {
            return place >= 0 && place < length && place < TEXT_MOST ? bytes[place] & 255 : NONE;
        }

        private static int variableOf(int letter) {
            return letter >= 'a' && letter < 'a' + VARIABLES ? letter - 'a' : NONE;
        }

        private static int digitOf(int letter) {
            return letter >= '0' && letter <= '9' ? letter - '0' : NONE;
        }
    }

    /** Puts fractions and TEST POINTS in place of VARIABLES, and frees formulas so. */
    private static final class Freer {
        private static final int BENCH_ROWS = 3 * NODES_MOST;

        /** A point: 1 if with a LITTLE more, the numbers of its sum, and the number below them all. */
        private static final int POINT_WIDTH = PLACES + 2;

        /** Minus infinity needs no row, so that a VARIABLE's value has the first one. */
        private static final int INFINITY = 0, VALUE = 0;

        private final Bench bench = new Bench(BENCH_ROWS);
        private final Tree body = new Tree(NODES_MOST);
        private final Sum sum = new Sum();
        private final int[] rowsOfPoints = new int[(NODES_MOST + 1) * POINT_WIDTH];
        private final int[] spans = new int[NODES_MOST];
        private final int[] bound = new int[NODES_MOST];
        private int points;
        private int pointsPut;
        private int takenOut;

        /** Leaves what is FREED of a formula on the bench; false if that is GREAT. */
        boolean run(Tree from) {
            bench.begin();
            pointsPut = 0;
            takenOut = 0;
            for (int row = 0; row < from.rows; row++) {
                int kind = from.kind(row);
                if (!bench.tree.reserve(1)) {
                    return false;
                }
                if (kind < AND) {
                    bench.pushRow(from, row);
                } else if (kind < EX) {
                    bench.join(kind);
                } else if (!takeOut(kind, from.number(row, 0))) {
                    return false;
                }
                if (bench.lastNodes() > NODES_MOST) {
                    return false;
                }
            }
            return true;
        }

        /** Leaves on the bench a formula with a fraction in place of a VARIABLE, where that is FREE. */
        boolean putValue(Tree from, int variable, int above, int below) {
            bench.begin();
            Arrays.fill(rowsOfPoints, 0, POINT_WIDTH, 0);
            rowsOfPoints[1 + VARIABLES] = above;
            rowsOfPoints[1 + PLACES] = below;
            markBound(from, variable);
            int rows = Math.min(from.rows, NODES_MOST);
            for (int row = 0; row < rows; row++) {
                int kind = from.kind(row);
                if (kind >= EX) {
                    bench.bind(kind, from.number(row, 0));
                } else if (kind >= AND) {
                    bench.join(kind);
                } else if (from.number(row, variable) == 0 || bound[row] == 1) {
                    bench.pushRow(from, row);
                } else if (!replace(from, row, variable, VALUE)) {
                    return false;
                }
            }
            return true;
        }

        /** Marks the rows that stand inside of an E or A of a VARIABLE. */
        private void markBound(Tree from, int variable) {
            int rows = Math.min(from.rows, NODES_MOST);
            from.measure(spans);
            Arrays.fill(bound, 0);
            for (int row = 0; row < rows; row++) {
                if (from.kind(row) >= EX && from.number(row, 0) == variable) {
                    for (int inner = Math.max(spans[row], 0); inner < row; inner++) {
                        bound[inner] = 1;
                    }
                }
            }
        }

        /** E or A of the last one on the bench, freed; false if that is GREAT. */
        private boolean takeOut(int kind, int variable) {
            if ((bench.lastLoose() >> variable & 1) == 0) {
                return true;
            }
            if (kind == ALL) {
                bench.negateLast();
            }
            bench.moveLast(body);
            collectPoints(variable);
            for (int point = INFINITY; point < points; point++) {
                pointsPut++;
                if (!bench.tree.reserve(body.rows + 1) || !putIn(variable, point)) {
                    return false;
                }
                if (point != INFINITY) {
                    bench.join(OR);
                }
                if (bench.lastNodes() > NODES_MOST) {
                    return false;
                }
                if (bench.lastKind() == T) {
                    break;
                }
            }
            takenOut++;
            if (kind == ALL) {
                bench.negateLast();
            }
            return true;
        }

        private void collectPoints(int variable) {
            points = INFINITY + 1;
            for (int row = 0; row < body.rows; row++) {
                int factor = body.number(row, variable);
                int kind = body.kind(row);
                boolean isAtom = kind >= EQ && kind <= LE;
                if (isAtom && factor != 0 && (kind <= NE || factor < 0)) {
                    addPoint(row, variable, kind == NE || kind == LT ? 1 : 0);
                }
            }
        }

        /** An ATOM's numbers have no common divisor, so that its point is in least terms already. */
        private void addPoint(int row, int variable, int little) {
            if (points > NODES_MOST) {
                return;
            }
            int start = points * POINT_WIDTH;
            int factor = body.number(row, variable);
            int sign = factor < 0 ? 1 : -1;
            rowsOfPoints[start] = little;
            for (int place = 0; place < PLACES; place++) {
                rowsOfPoints[start + 1 + place] = place == variable ? 0 : sign * body.number(row, place);
            }
            rowsOfPoints[start + 1 + PLACES] = Math.abs(factor);
            for (int point = INFINITY + 1; point < points; point++) {
                if (isSamePoint(point * POINT_WIDTH, start)) {
                    return;
                }
            }
            points++;
        }

        private boolean isSamePoint(int one, int other) {
            for (int cell = 0; cell < POINT_WIDTH; cell++) {
                if (rowsOfPoints[one + cell] != rowsOfPoints[other + cell]) {
                    return false;
                }
            }
            return true;
        }

        /** Pushes the body with a TEST POINT in place of a VARIABLE; false if a number is GREAT. */
        private boolean putIn(int variable, int point) {
            for (int row = 0; row < body.rows; row++) {
                int kind = body.kind(row);
                int factor = body.number(row, variable);
                if (kind >= AND) {
                    bench.join(kind);
                } else if (factor == 0) {
                    bench.pushRow(body, row);
                } else if (point == INFINITY) {
                    bench.push(kind == NE || kind >= LT && factor > 0 ? T : F);
                } else if (!replace(body, row, variable, point)) {
                    return false;
                }
            }
            return true;
        }

        /** Pushes an ATOM with a point in place of a VARIABLE; false if a number is GREAT. */
        private boolean replace(Tree from, int row, int variable, int point) {
            if (point < 0 || point > NODES_MOST) {
                return false;
            }
            int start = point * POINT_WIDTH;
            int relation = from.kind(row);
            long factor = from.number(row, variable);
            if (rowsOfPoints[start] == 1) {
                if (relation == EQ || relation == NE) {
                    bench.push(relation == NE ? T : F);
                    return true;
                }
                relation = factor > 0 ? LT : LE;
            }
            long below = rowsOfPoints[start + 1 + PLACES];
            sum.empty();
            for (int place = 0; place < PLACES; place++) {
                long own = place == variable ? 0 : from.number(row, place);
                sum.add(place, own * below + factor * rowsOfPoints[start + 1 + place]);
            }
            int kind = sum.settle(relation);
            if (kind == GREAT) {
                return false;
            }
            bench.pushSettled(sum, kind);
            return true;
        }
    }

    /** Writes formulas, and keeps the first bytes of what it has written. */
    private static final class Scribe {
        private static final int WORK_MOST = 4 * NODES_MOST;

        private final byte[] kept = new byte[KEPT_MOST];
        private final int[] spans = new int[NODES_MOST];
        private final int[] work = new int[WORK_MOST];
        private int length;
        private int works;

        int letterAt(long place) {
            return place >= 0 && place < length && place < KEPT_MOST ? kept[(int) place] & 255 : 0;
        }

        void put(Tree tree) {
            length = 0;
            works = 0;
            tree.measure(spans);
            later(tree.rows - 1);
            for (int step = 0; step < WORK_MOST && works > 0; step++) {
                works--;
                int item = work[works];
                if (item < 0) {
                    letter(-item);
                } else {
                    node(tree, item);
                }
            }
        }

        /** Work that waits is a row's number, or a letter's below 0. */
        private void later(int item) {
            if (works < WORK_MOST) {
                work[works] = item;
                works++;
            }
        }

        private void node(Tree tree, int row) {
            int kind = tree.kind(row);
            if (kind == T || kind == F) {
                letter(kind == T ? 'T' : 'F');
            } else if (kind <= LE) {
                atom(tree, row);
            } else if (kind >= EX) {
                letter(kind == EX ? 'E' : 'A');
                letter('a' + tree.number(row, 0));
                letter('.');
                later(row - 1);
            } else if (row >= 1 && row <= NODES_MOST) {
                letter('(');
                later(-')');
                later(row - 1);
                later(kind == AND ? -'&' : -'|');
                later(spans[row - 1] - 1);
            }
        }

        private void atom(Tree tree, int row) {
            int start = length;
            for (int place = 0; place < PLACES; place++) {
                int number = tree.number(row, place);
                if (number != 0) {
                    if (number < 0) {
                        letter('-');
                    } else if (length > start) {
                        letter('+');
                    }
                    int size = Math.abs(number);
                    if (size != 1 || place == VARIABLES) {
                        digits(size);
                    }
                    if (place < VARIABLES) {
                        letter('a' + place);
                    }
                }
            }
            relation(tree.kind(row));
            letter('0');
        }

        private void relation(int kind) {
            if (kind == NE) {
                letter('!');
            } else if (kind != EQ) {
                letter('<');
            }
            if (kind != LT) {
                letter('=');
            }
        }

        private void digits(int size) {
            boolean begun = false;
            for (int unit = 1_000_000_000; unit > 0; unit /= 10) {
                int digit = size / unit % 10;
                begun |= digit != 0;
                if (begun) {
                    letter('0' + digit);
                }
            }
        }

        private void letter(int letter) {
            if (length < KEPT_MOST) {
                kept[length] = (byte) letter;
            }
            length++;
        }
    }
}
