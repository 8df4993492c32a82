import java.math.BigInteger;
import java.util.ArrayList;
import java.util.LinkedHashSet;
import java.util.List;
import java.util.Random;
import java.util.Set;
import java.util.function.Supplier;

/**
 * Random runs of calls, each answer held against a model that follows the document in its plainest
 * form: trees of objects, recursion, BigInteger. The random source is seeded, so that all runs are
 * the same each time.
 */
public final class ModelRuns {
    private static final int RUNS = 4000;
    private static final int MIXED_RUNS = 600;
    private static int wrong = 0;
    private static int greatReads = 0, greatFrees = 0, greatDecides = 0, longWrites = 0, faults = 0;

    /** What the document calls GREAT. */
    private static final class Great extends RuntimeException {
        private static final long serialVersionUID = 1L;
    }

    private static final class Fault extends RuntimeException {
        private static final long serialVersionUID = 1L;
    }

    /** kind: T F = ! (for !=) < L (for <=) & | E A. */
    private static final class Node {
        final char kind;
        final BigInteger[] numbers;
        final int variable;
        final Node left, right;

        Node(char kind, BigInteger[] numbers, int variable, Node left, Node right) {
            this.kind = kind;
            this.numbers = numbers;
            this.variable = variable;
            this.left = left;
            this.right = right;
        }

        boolean isAtom() {
            return "=!<L".indexOf(kind) >= 0;
        }
    }

    private static final Node TRUE = new Node('T', null, 0, null, null);
    private static final Node FALSE = new Node('F', null, 0, null, null);

    private static String written(Node n) {
        switch (n.kind) {
            case 'T': return "T";
            case 'F': return "F";
            case '&': return "(" + written(n.left) + "&" + written(n.right) + ")";
            case '|': return "(" + written(n.left) + "|" + written(n.right) + ")";
            case 'E': return "E" + (char) ('a' + n.variable) + "." + written(n.left);
            case 'A': return "A" + (char) ('a' + n.variable) + "." + written(n.left);
            default: break;
        }
        StringBuilder s = new StringBuilder();
        for (int i = 0; i < 9; i++) {
            if (n.numbers[i].signum() != 0) {
                String digits = n.numbers[i].toString();
                if (i < 8 && digits.equals("1")) digits = "";
                if (i < 8 && digits.equals("-1")) digits = "-";
                if (s.length() > 0 && n.numbers[i].signum() > 0) s.append('+');
                s.append(digits);
                if (i < 8) s.append((char) ('a' + i));
            }
        }
        return s + (n.kind == '=' ? "=0" : n.kind == '!' ? "!=0" : n.kind == '<' ? "<0" : "<=0");
    }

    private static int nodes(Node n) {
        return 1 + (n.left == null ? 0 : nodes(n.left)) + (n.right == null ? 0 : nodes(n.right));
    }

    private static int count(Node n, String kinds) {
        return (kinds.indexOf(n.kind) >= 0 ? 1 : 0)
                + (n.left == null ? 0 : count(n.left, kinds)) + (n.right == null ? 0 : count(n.right, kinds));
    }

    private static int deep(Node n) {
        return 1 + Math.max(n.left == null ? 0 : deep(n.left), n.right == null ? 0 : deep(n.right));
    }

    private static int freeBits(Node n) {
        if (n.isAtom()) {
            int bits = 0;
            for (int i = 0; i < 8; i++) if (n.numbers[i].signum() != 0) bits |= 1 << i;
            return bits;
        }
        if (n.kind == 'E' || n.kind == 'A') return freeBits(n.left) & ~(1 << n.variable);
        return n.left == null ? 0 : freeBits(n.left) | freeBits(n.right);
    }

    private static boolean has(Node n, int v) {
        return (freeBits(n) >> v & 1) == 1;
    }

    private static Node and(Node p, Node q) {
        if (p.kind == 'F' || q.kind == 'F') return FALSE;
        if (p.kind == 'T') return q;
        if (q.kind == 'T') return p;
        return written(p).equals(written(q)) ? p : new Node('&', null, 0, p, q);
    }

    private static Node or(Node p, Node q) {
        if (p.kind == 'T' || q.kind == 'T') return TRUE;
        if (p.kind == 'F') return q;
        if (q.kind == 'F') return p;
        return written(p).equals(written(q)) ? p : new Node('|', null, 0, p, q);
    }

    private static Node bind(char kind, int v, Node p) {
        return has(p, v) ? new Node(kind, null, v, p, null) : p;
    }

    private static Node atom(BigInteger[] s, char kind) {
        BigInteger g = BigInteger.ZERO;
        boolean variables = false;
        for (int i = 0; i < 9; i++) {
            g = g.gcd(s[i]);
            variables |= i < 8 && s[i].signum() != 0;
        }
        if (!variables) {
            int sign = s[8].signum();
            boolean truth = kind == '=' ? sign == 0 : kind == '!' ? sign != 0 : kind == '<' ? sign < 0 : sign <= 0;
            return truth ? TRUE : FALSE;
        }
        BigInteger[] t = new BigInteger[9];
        int first = 0;
        while (s[first].signum() == 0) first++;
        if ((kind == '=' || kind == '!') && s[first].signum() < 0) g = g.negate();
        for (int i = 0; i < 9; i++) {
            t[i] = s[i].divide(g);
            if (t[i].abs().compareTo(BigInteger.valueOf(1_000_000_000)) > 0) throw new Great();
        }
        return new Node(kind, t, 0, null, null);
    }

    private static Node not(Node n) {
        switch (n.kind) {
            case 'T': return FALSE;
            case 'F': return TRUE;
            case '&': return or(not(n.left), not(n.right));
            case '|': return and(not(n.left), not(n.right));
            case 'E': return bind('A', n.variable, not(n.left));
            case 'A': return bind('E', n.variable, not(n.left));
            case '=': return atom(n.numbers, '!');
            case '!': return atom(n.numbers, '=');
            default: break;
        }
        BigInteger[] s = new BigInteger[9];
        for (int i = 0; i < 9; i++) s[i] = n.numbers[i].negate();
        return atom(s, n.kind == '<' ? 'L' : '<');
    }

    /** top / under in place of x; the numbers of top may be those of other VARIABLES too. */
    private static Node putInAtom(Node n, int x, BigInteger[] top, BigInteger under, char kind) {
        BigInteger[] s = new BigInteger[9];
        for (int i = 0; i < 9; i++) {
            s[i] = (i == x ? BigInteger.ZERO : n.numbers[i].multiply(under)).add(n.numbers[x].multiply(top[i]));
        }
        return atom(s, kind);
    }

    private static final class Point {
        boolean infinity, little;
        BigInteger[] top;
        BigInteger under;

        @Override public boolean equals(Object o) {
            return o instanceof Point p && text().equals(p.text());
        }

        @Override public int hashCode() {
            return text().hashCode();
        }

        String text() {
            if (infinity) return "-";
            BigInteger g = under;
            for (BigInteger t : top) g = g.gcd(t);
            if (under.signum() < 0) g = g.negate();
            StringBuilder s = new StringBuilder(little ? "+" : "");
            for (BigInteger t : top) s.append(t.divide(g)).append(',');
            return s.append(under.divide(g)).toString();
        }

        Node in(Node n, int x) {
            if (n.kind == '&') return and(in(n.left, x), in(n.right, x));
            if (n.kind == '|') return or(in(n.left, x), in(n.right, x));
            if (!n.isAtom() || n.numbers[x].signum() == 0) return n;
            boolean up = n.numbers[x].signum() > 0;
            if (infinity || little) {
                if (n.kind == '=') return FALSE;
                if (n.kind == '!') return TRUE;
                if (infinity) return up ? TRUE : FALSE;
            }
            return putInAtom(n, x, top, under, little ? (up ? '<' : 'L') : n.kind);
        }
    }

    private static void collect(Node n, int x, Set<Point> points) {
        if (n.kind == '&' || n.kind == '|') {
            collect(n.left, x, points);
            collect(n.right, x, points);
        } else if (n.isAtom() && n.numbers[x].signum() != 0) {
            boolean down = n.numbers[x].signum() < 0;
            if (n.kind == '=' || n.kind == '!' || down) {
                Point p = new Point();
                p.little = n.kind == '!' || n.kind == '<';
                p.under = n.numbers[x].abs();
                p.top = new BigInteger[9];
                for (int i = 0; i < 9; i++) {
                    p.top[i] = i == x ? BigInteger.ZERO : down ? n.numbers[i] : n.numbers[i].negate();
                }
                points.add(p);
            }
        }
    }

    /** An object of the class, as the document tells it. */
    private static final class Model {
        String text = "";
        String out = "";
        Node formula = TRUE;
        final int[] above = new int[8];
        final int[] below = {1, 1, 1, 1, 1, 1, 1, 1};
        int put, taken;
        int at, open;
        boolean great;

        int read() {
            at = 0;
            open = 0;
            great = false;
            Node read;
            try {
                read = formula();
                if (look() != -1) throw new Fault();
            } catch (Fault f) {
                faults++;
                return at;
            }
            if (great) {
                greatReads++;
                return -2;
            }
            formula = read;
            return -1;
        }

        int raw(int i) {
            return i < text.length() ? text.charAt(i) : -1;
        }

        int look() {
            while (raw(at) == ' ') at++;
            return raw(at);
        }

        void must(boolean good) {
            if (!good) throw new Fault();
        }

        Node formula() {
            Node p = alt();
            if (look() != '-') return p;
            at++;
            must(raw(at) == '>');
            at++;
            Node q = formula();
            return or(ModelRuns.not(p), q);
        }

        Node alt() {
            Node p = con();
            while (look() == '|') {
                at++;
                p = or(p, con());
            }
            return p;
        }

        Node con() {
            Node p = unit();
            while (look() == '&') {
                at++;
                p = and(p, unit());
            }
            return p;
        }

        Node unit() {
            int c = look();
            if (c == 'T' || c == 'F') {
                at++;
                return c == 'T' ? TRUE : FALSE;
            }
            if (c != '!' && c != 'E' && c != 'A' && c != '(') return relation();
            must(open < 20);
            open++;
            at++;
            Node n;
            if (c == '!') {
                n = ModelRuns.not(unit());
            } else if (c == '(') {
                n = formula();
                must(look() == ')');
                at++;
            } else {
                int v = look() - 'a';
                must(v >= 0 && v < 8);
                at++;
                must(look() == '.');
                at++;
                n = bind((char) c, v, unit());
            }
            open--;
            return n;
        }

        Node relation() {
            BigInteger[] left = side(false);
            int c = look();
            must(c == '<' || c == '>' || c == '=' || c == '!');
            at++;
            if (c == '!') must(raw(at) == '=');
            boolean equal = c != '=' && raw(at) == '=';
            if (equal) at++;
            BigInteger[] right = side(true);
            BigInteger[] s = new BigInteger[9];
            for (int i = 0; i < 9; i++) s[i] = c == '>' ? right[i].subtract(left[i]) : left[i].subtract(right[i]);
            try {
                return atom(s, c == '=' ? '=' : c == '!' ? '!' : equal ? 'L' : '<');
            } catch (Great g) {
                great = true;
                return TRUE;
            }
        }

        BigInteger[] side(boolean last) {
            BigInteger[] s = new BigInteger[9];
            for (int i = 0; i < 9; i++) s[i] = BigInteger.ZERO;
            int sign = 1;
            if (look() == '-') {
                sign = -1;
                at++;
            }
            while (true) {
                item(s, sign);
                int c = look();
                if (c == '-' && last && raw(at + 1) == '>' || c != '+' && c != '-') return s;
                sign = c == '+' ? 1 : -1;
                at++;
            }
        }

        void item(BigInteger[] s, int sign) {
            int c = look();
            int top = 1, under = 1;
            if (c >= '0' && c <= '9') {
                top = 0;
                for (int k = 0; k < 4 && raw(at) >= '0' && raw(at) <= '9'; k++) top = top * 10 + raw(at++) - '0';
                if (raw(at) == '/') {
                    at++;
                    must(raw(at) >= '1' && raw(at) <= '9');
                    under = raw(at++) - '0';
                    if (under == 1 && raw(at) >= '0' && raw(at) <= '2') under = 10 + raw(at++) - '0';
                }
                c = look();
            } else {
                must(c >= 'a' && c <= 'h');
            }
            int place = 8;
            if (c >= 'a' && c <= 'h') {
                place = c - 'a';
                at++;
            }
            s[place] = s[place].add(BigInteger.valueOf((long) sign * top * 27720 / under));
        }

        Node freed(Node n) {
            if (n.kind == '&' || n.kind == '|') {
                Node p = freed(n.left), q = freed(n.right);
                Node both = n.kind == '&' ? and(p, q) : or(p, q);
                if (nodes(both) > 400) throw new Great();
                return both;
            }
            if (n.kind == 'E') return takenOut(n.variable, freed(n.left));
            if (n.kind == 'A') return ModelRuns.not(takenOut(n.variable, ModelRuns.not(freed(n.left))));
            return n;
        }

        Node takenOut(int x, Node p) {
            if (!has(p, x)) return p;
            Set<Point> points = new LinkedHashSet<>();
            Point infinity = new Point();
            infinity.infinity = true;
            points.add(infinity);
            collect(p, x, points);
            Node sum = null;
            for (Point point : points) {
                put++;
                Node q = point.in(p, x);
                sum = sum == null ? q : or(sum, q);
                if (nodes(sum) > 400) throw new Great();
                if (sum.kind == 'T') break;
            }
            taken++;
            return sum;
        }

        int frees() {
            put = 0;
            taken = 0;
            try {
                formula = freed(formula);
            } catch (Great g) {
                greatFrees++;
                return -2;
            }
            return nodes(formula);
        }

        Node withValue(Node n, int v) {
            if (n.kind == '&') return and(withValue(n.left, v), withValue(n.right, v));
            if (n.kind == '|') return or(withValue(n.left, v), withValue(n.right, v));
            if (n.kind == 'E' || n.kind == 'A') return n.variable == v ? n : bind(n.kind, n.variable, withValue(n.left, v));
            if (!n.isAtom() || n.numbers[v].signum() == 0) return n;
            BigInteger[] top = new BigInteger[9];
            for (int i = 0; i < 9; i++) top[i] = BigInteger.valueOf(i == 8 ? above[v] : 0);
            return putInAtom(n, v, top, BigInteger.valueOf(below[v]), n.kind);
        }

        int decide() {
            try {
                Node n = formula;
                for (int v = 0; v < 8; v++) n = withValue(n, v);
                put = 0;
                taken = 0;
                return freed(n).kind == 'T' ? 1 : 0;
            } catch (Great g) {
                greatDecides++;
                return -2;
            }
        }

        /** 1, 0, or -9 for the exception. */
        int holds() {
            return count(formula, "EA") > 0 ? -9 : holds(formula) ? 1 : 0;
        }

        boolean holds(Node n) {
            if (n.kind == '&') return holds(n.left) && holds(n.right);
            if (n.kind == '|') return holds(n.left) || holds(n.right);
            if (!n.isAtom()) return n.kind == 'T';
            BigInteger all = BigInteger.valueOf(1);
            for (int b : below) all = all.multiply(BigInteger.valueOf(b));
            BigInteger sum = n.numbers[8].multiply(all);
            for (int v = 0; v < 8; v++) {
                sum = sum.add(n.numbers[v].multiply(BigInteger.valueOf(above[v]))
                        .multiply(all).divide(BigInteger.valueOf(below[v])));
            }
            int sign = sum.signum();
            return n.kind == '=' ? sign == 0 : n.kind == '!' ? sign != 0 : n.kind == '<' ? sign < 0 : sign <= 0;
        }

        int write() {
            out = written(formula);
            if (out.length() > 12000) longWrites++;
            int length = out.length();
            if (length > 12000) out = out.substring(0, 12000);
            return length;
        }

        long out(int i) {
            long eight = 0;
            for (int k = 0; k < 8; k++) {
                long place = (long) i + k;
                if (place >= 0 && place < out.length()) eight |= (long) out.charAt((int) place) << 8 * k;
            }
            return eight;
        }

        int pass() {
            text = out.substring(0, Math.min(240, out.length()));
            return text.length();
        }
    }

    private static final class Texts {
        final Random random;
        int depth, variables, most;

        Texts(Random random) {
            this.random = random;
        }

        String one() {
            variables = 1 + random.nextInt(8);
            most = random.nextInt(6) == 0 ? 9999 : random.nextBoolean() ? 9 : 30;
            depth = 0;
            StringBuilder s = new StringBuilder();
            int quantifiers = random.nextInt(5);
            for (int k = 0; k < quantifiers; k++) s.append(random.nextBoolean() ? 'E' : 'A').append(variable()).append('.');
            int style = random.nextInt(5);
            if (style == 4) return s.append('(').append(big()).append(')').toString();
            if (style == 0) return s.append('(').append(many("&")).append(')').toString();
            if (style == 1) return s.append('(').append(many("|")).append(')').toString();
            return s.append('(').append(formula()).append(')').toString();
        }

        String many(String joint) {
            StringBuilder s = new StringBuilder(atom());
            int more = random.nextInt(24);
            for (int k = 0; k < more; k++) s.append(random.nextInt(12) == 0 ? "|" : joint).append(atom());
            return s.toString();
        }

        /** A sum around 1,000,000,000, now above it, now below. */
        String huge() {
            StringBuilder s = new StringBuilder();
            for (int k = 0; k < 3; k++) s.append(variable()).append(random.nextBoolean() ? "<0&" : ">0|");
            int items = 2 + random.nextInt(4);
            for (int k = 0; k < items; k++) s.append(5000 + random.nextInt(5000)).append("a+");
            return s.append("1/7b+1/8c+1/9d-1/10e-1/11").append(variable()).append(random.nextBoolean() ? "<1" : "!=a").toString();
        }

        /** ATOMS with many large numbers, for GREAT ones and for long writings. */
        String big() {
            variables = 8;
            if (random.nextInt(4) == 0) return huge();
            if (random.nextInt(4) == 0) return wide();
            int atoms = 2 + random.nextInt(8);
            int most = random.nextBoolean() ? 9999 : 99;
            StringBuilder s = new StringBuilder();
            for (int k = 0; k < atoms; k++) {
                if (k > 0) s.append(random.nextInt(5) == 0 ? '|' : '&');
                s.append(variable()).append(random.nextBoolean() ? '>' : '<');
                int items = 1 + random.nextInt(Math.max(1, 24 / atoms));
                for (int i = 0; i < items; i++) {
                    if (i > 0) s.append(random.nextBoolean() ? '+' : '-');
                    s.append(1 + random.nextInt(most));
                    if (random.nextInt(3) == 0) s.append('/').append(5 + random.nextInt(8));
                    if (random.nextInt(8) > 0) s.append(variable());
                }
            }
            return s.toString();
        }

        String wide() {
            StringBuilder s = new StringBuilder("Ea.Eb.(");
            for (int k = 0; k < 6; k++) {
                if (k > 0) s.append('&');
                for (int v = 0; v < 8; v++) {
                    s.append(v == 0 ? "" : random.nextBoolean() ? "+" : "-").append(75 + random.nextInt(25)).append((char) ('a' + v));
                }
                s.append(random.nextBoolean() ? "<1" : ">1");
            }
            return s.append(')').toString();
        }

        String formula() {
            depth++;
            String s = unit();
            int more = random.nextInt(depth > 3 ? 2 : 4);
            String[] joints = {"&", "|", "->", " & ", " -> ", "&"};
            for (int k = 0; k < more; k++) s += joints[random.nextInt(joints.length)] + unit();
            depth--;
            return s;
        }

        String unit() {
            int k = random.nextInt(depth > 4 ? 4 : 10);
            if (k < 4) return random.nextInt(20) == 0 ? (random.nextBoolean() ? "T" : "F") : atom();
            if (k < 5) return "!" + unit();
            if (k < 7) return (random.nextBoolean() ? "E" : "A") + variable() + (random.nextInt(9) == 0 ? " . " : ".") + unit();
            return "(" + formula() + ")";
        }

        char variable() {
            return (char) ('a' + random.nextInt(variables));
        }

        String atom() {
            String[] relations = {"<", "<=", "=", "!=", ">", ">=", "<", ">"};
            return side() + relations[random.nextInt(relations.length)] + side();
        }

        String side() {
            StringBuilder s = new StringBuilder(random.nextInt(5) == 0 ? "-" : "");
            int items = 1 + (random.nextInt(3) == 0 ? random.nextInt(3) : 0);
            for (int k = 0; k < items; k++) {
                if (k > 0) s.append(random.nextBoolean() ? "+" : "-");
                int form = random.nextInt(6);
                if (form > 2) {
                    s.append(variable());
                } else {
                    s.append(random.nextInt(most));
                    if (form == 1) s.append('/').append(1 + random.nextInt(12));
                    if (form > 0) s.append(random.nextInt(9) == 0 ? " " : "").append(variable());
                }
            }
            return s.toString();
        }
    }

    private static final List<String> TRAIL = new ArrayList<>();

    private static void due(String call, long got, long want) {
        TRAIL.add(call + " -> " + want);
        if (got != want) {
            wrong++;
            if (wrong <= 10) System.out.println(TRAIL + " answered " + got);
        }
    }

    private static void type(LinearTruths x, Model m, String text) {
        for (int i = 0; i < text.length(); i += 8) {
            int n = Math.min(8, text.length() - i);
            long bytes = -1L;
            for (int k = n - 1; k >= 0; k--) bytes = bytes << 8 | text.charAt(i + k) & 255;
            m.text += text.substring(i, i + n);
            due("type '" + text.substring(i, i + n) + "'", x.type(bytes, n), m.text.length());
        }
    }

    private static int holds(LinearTruths x) {
        try {
            return x.holds();
        } catch (IllegalStateException e) {
            return -9;
        }
    }

    private static void state(LinearTruths x, Model m, Random random) {
        due("free()", x.free(), freeBits(m.formula));
        due("told(0)", x.told(0), nodes(m.formula));
        due("told(1)", x.told(1), count(m.formula, "=!<L"));
        due("told(2)", x.told(2), count(m.formula, "EA"));
        due("told(3)", x.told(3), deep(m.formula));
        due("told(4)", x.told(4), m.put);
        due("told(5)", x.told(5), m.taken);
        int length = m.write();
        due("write()", x.write(), length);
        for (int i = -8; i < Math.min(length + 16, 12016); i += 8) due("out(" + i + ")", x.out(i), m.out(i));
        int i = random.nextInt(Math.min(length, 12000) + 20) - 10;
        due("out(" + i + ")", x.out(i), m.out(i));
        due("holds()", holds(x), m.holds());
    }

    private static String spoilt(String text, Random random) {
        int i = random.nextInt(text.length());
        String letters = "abh<>=!&|-+()EATF. 019/13x\u00ff\u0000";
        String letter = String.valueOf(letters.charAt(random.nextInt(letters.length())));
        int how = random.nextInt(3);
        return text.substring(0, i) + (how == 0 ? "" : letter) + text.substring(how == 1 ? i : i + 1);
    }

    private static void run(long seed) {
        Random random = new Random(seed);
        Texts texts = new Texts(random);
        LinearTruths x = new LinearTruths();
        Model m = new Model();
        TRAIL.clear();
        TRAIL.add("seed " + seed);
        for (int k = 0; k < 4; k++) {
            due("clear()", x.clear(), m.text.length());
            m.text = "";
            String text = texts.one();
            if (random.nextInt(4) == 0) text = spoilt(text, random);
            if (text.length() > 240) text = text.substring(0, 240);
            type(x, m, text);
            due("read()", x.read(), m.read());
            for (int v = 0; v < 8; v++) {
                if (random.nextInt(3) == 0) {
                    m.above[v] = random.nextInt(199) - 99;
                    m.below[v] = 1 + random.nextInt(9);
                    x.value(v, m.above[v], m.below[v]);
                    TRAIL.add("value " + v + " " + m.above[v] + "/" + m.below[v]);
                }
            }
            state(x, m, random);
            due("decide()", x.decide(), m.decide());
            due("told(4)", x.told(4), m.put);
            due("told(5)", x.told(5), m.taken);
            if (random.nextBoolean()) {
                m.formula = not(m.formula);
                due("not()", x.not(), nodes(m.formula));
            }
            due("frees()", x.frees(), m.frees());
            state(x, m, random);
            if (random.nextInt(3) == 0) {
                due("pass()", x.pass(), m.pass());
                due("read()", x.read(), m.read());
                state(x, m, random);
            }
        }
    }

    /** The answer, or -9 for an exception. */
    private static long answer(Supplier<Number> call) {
        try {
            return call.get().longValue();
        } catch (IllegalArgumentException | IllegalStateException | UnsupportedOperationException e) {
            return -9;
        }
    }

    private static void newText(LinearTruths x, Model m, Texts texts, Random random) {
        due("clear()", x.clear(), m.text.length());
        m.text = "";
        String text = texts.one();
        if (random.nextInt(6) == 0) text = spoilt(text, random);
        type(x, m, text.length() > 240 ? text.substring(0, 240) : text);
    }

    private static void typeSome(LinearTruths x, Model m, Random random) {
        String tail = random.nextBoolean() ? "&a<b|T  " : "->Eb.b<a";
        long bytes = 0;
        for (int k = 7; k >= 0; k--) bytes = bytes << 8 | tail.charAt(k);
        long all = bytes;
        int n = random.nextInt(11) - 1;
        boolean refused = n < 0 || n > 8 || m.text.length() + n > 240;
        if (!refused) m.text += tail.substring(0, n);
        due("type '" + tail + "' " + n, answer(() -> x.type(all, n)), refused ? -9 : m.text.length());
    }

    private static void giveValue(LinearTruths x, Model m, Random random) {
        int v = random.nextInt(10) - 1, above = random.nextInt(203) - 101, below = random.nextInt(11);
        boolean refused = v < 0 || v > 7 || above < -99 || above > 99 || below < 1 || below > 9;
        if (!refused) {
            m.above[v] = above;
            m.below[v] = below;
        }
        due("value " + v + " " + above + "/" + below, answer(() -> {
            x.value(v, above, below);
            return 0;
        }), refused ? -9 : 0);
    }

    private static int told(Model m, int what) {
        int[] answers = {nodes(m.formula), count(m.formula, "=!<L"), count(m.formula, "EA"), deep(m.formula), m.put, m.taken};
        return what < 0 || what > 5 ? -9 : answers[what];
    }

    private static void anyCall(LinearTruths x, Model m, Random random) {
        int what = random.nextInt(8) - 1;
        int place = random.nextInt(4) == 0 ? 11_980 + random.nextInt(30) : random.nextInt(m.out.length() + 20) - 10;
        switch (random.nextInt(13)) {
            case 0 -> typeSome(x, m, random);
            case 1, 2 -> due("read()", x.read(), m.read());
            case 3 -> due("free()", x.free(), freeBits(m.formula));
            case 4 -> due("frees()", x.frees(), m.frees());
            case 5 -> giveValue(x, m, random);
            case 6 -> due("holds()", holds(x), m.holds());
            case 7 -> due("decide()", x.decide(), m.decide());
            case 8 -> {
                m.formula = not(m.formula);
                due("not()", x.not(), nodes(m.formula));
            }
            case 9 -> due("told(" + what + ")", answer(() -> x.told(what)), told(m, what));
            case 10 -> due("write()", x.write(), m.write());
            case 11 -> due("out(" + place + ")", x.out(place), m.out(place));
            default -> due("pass()", x.pass(), m.pass());
        }
    }

    /** 512 calls in any order, refused ones among them: what one leaves another one finds. */
    private static void mixed(long seed) {
        Random random = new Random(seed);
        Texts texts = new Texts(random);
        LinearTruths x = new LinearTruths();
        Model m = new Model();
        TRAIL.clear();
        TRAIL.add("mixed seed " + seed);
        while (TRAIL.size() <= 480) {
            if (random.nextInt(12) == 0) newText(x, m, texts, random);
            anyCall(x, m, random);
        }
        while (TRAIL.size() <= 512) anyCall(x, m, random);
    }

    public static void main(String[] args) {
        for (int seed = 1; seed <= RUNS; seed++) run(seed);
        for (int seed = 1; seed <= MIXED_RUNS; seed++) mixed(seed);
        System.out.println("model runs: " + RUNS + " and " + MIXED_RUNS + " mixed ones; faults " + faults + ", GREAT of read " + greatReads + ", of frees "
                + greatFrees + ", of decide " + greatDecides + ", writings over 12,000 bytes " + longWrites);
        if (wrong > 0) System.exit(1);
    }
}
