import java.math.BigInteger;
import java.util.ArrayList;
import java.util.List;
import java.util.Random;

/**
 * The truth itself: what decide() and frees() with holds() answer, held against a search over
 * fractions that knows no LITTLE and no infinity. It lays one point on each border of the innermost
 * VARIABLE, one between each two and one beyond both ends, for one VARIABLE after the other.
 */
public final class TruthRuns {
    private static final int RUNS = 3000;

    private record Fraction(BigInteger above, BigInteger below) {
        static Fraction of(long above, long below) {
            return new Fraction(BigInteger.valueOf(above), BigInteger.valueOf(below));
        }

        Fraction plus(Fraction o) {
            return new Fraction(above.multiply(o.below).add(o.above.multiply(below)), below.multiply(o.below)).least();
        }

        Fraction times(Fraction o) {
            return new Fraction(above.multiply(o.above), below.multiply(o.below)).least();
        }

        Fraction over(Fraction o) {
            return times(o.above.signum() < 0 ? new Fraction(o.below.negate(), o.above.negate()) : new Fraction(o.below, o.above));
        }

        Fraction least() {
            BigInteger g = above.gcd(below);
            return new Fraction(above.divide(g), below.divide(g));
        }

        int compare(Fraction o) {
            return above.multiply(o.below).compareTo(o.above.multiply(below));
        }
    }

    /** sum of numbers[i] * variable i + numbers[last], and a relation. */
    private record Atom(int[] numbers, String relation) {
        Fraction sum(Fraction[] values) {
            Fraction s = Fraction.of(numbers[numbers.length - 1], 1);
            for (int i = 0; i < numbers.length - 1; i++) s = s.plus(values[i].times(Fraction.of(numbers[i], 1)));
            return s;
        }

        boolean holds(Fraction[] values) {
            int sign = sum(values).above().signum();
            switch (relation) {
                case "<": return sign < 0;
                case "<=": return sign <= 0;
                case "=": return sign == 0;
                case "!=": return sign != 0;
                case ">": return sign > 0;
                default: return sign >= 0;
            }
        }
    }

    private static final int VARIABLES = 3;
    private static List<Atom> atoms;
    private static int[] shape;
    private static String quantifiers;

    /** The matrix: atoms joined from the left, shape telling by & (0), | (1) or & of the not (2). */
    private static boolean matrix(Fraction[] values) {
        boolean truth = atoms.get(0).holds(values);
        for (int k = 1; k < atoms.size(); k++) {
            boolean next = atoms.get(k).holds(values);
            truth = shape[k] == 0 ? truth && next : shape[k] == 1 ? truth || next : truth && !next;
        }
        return truth;
    }

    /** Borders of variable v when those behind it are at any of their borders: linear in 0 .. v. */
    private static List<int[]> borders(int v) {
        List<int[]> lines = new ArrayList<>();
        for (Atom a : atoms) lines.add(a.numbers().clone());
        for (int inner = VARIABLES - 1; inner > v; inner--) {
            List<int[]> next = new ArrayList<>();
            for (int[] p : lines) if (p[inner] == 0) next.add(p);
            for (int[] p : lines) for (int[] q : lines) {
                if (p[inner] != 0 && q[inner] != 0 && p != q) {
                    int[] r = new int[VARIABLES + 1];
                    for (int i = 0; i <= VARIABLES; i++) r[i] = p[i] * q[inner] - q[i] * p[inner];
                    next.add(r);
                }
            }
            lines = next;
        }
        return lines;
    }

    private static boolean search(int v, Fraction[] values) {
        if (v == VARIABLES) return matrix(values);
        boolean some = quantifiers.charAt(v) == 'E';
        for (Fraction point : points(v, values)) {
            values[v] = point;
            if (search(v + 1, values) == some) return some;
        }
        return !some;
    }

    private static List<Fraction> points(int v, Fraction[] values) {
        List<Fraction> at = new ArrayList<>();
        for (int[] line : borders(v)) {
            if (line[v] != 0) {
                Fraction rest = Fraction.of(line[VARIABLES], 1);
                for (int i = 0; i < v; i++) rest = rest.plus(values[i].times(Fraction.of(line[i], 1)));
                at.add(rest.over(Fraction.of(-line[v], 1)));
            }
        }
        at.sort(Fraction::compare);
        List<Fraction> all = new ArrayList<>();
        if (at.isEmpty()) return List.of(Fraction.of(0, 1));
        all.add(at.get(0).plus(Fraction.of(-1, 1)));
        for (int k = 0; k < at.size(); k++) {
            if (k > 0) all.add(at.get(k - 1).plus(at.get(k)).times(Fraction.of(1, 2)));
            all.add(at.get(k));
        }
        all.add(at.get(at.size() - 1).plus(Fraction.of(1, 1)));
        return all;
    }

    private static String text(Atom a) {
        StringBuilder s = new StringBuilder();
        for (int i = 0; i <= VARIABLES; i++) {
            int n = a.numbers()[i];
            s.append(n < 0 ? "-" : i > 0 ? "+" : "").append(Math.abs(n)).append(i < VARIABLES ? "" + (char) ('a' + i) : "");
        }
        return s + a.relation() + "0";
    }

    private static void random(Random random) {
        String[] relations = {"<", "<=", "=", "!=", ">", ">="};
        atoms = new ArrayList<>();
        int many = 1 + random.nextInt(4);
        shape = new int[many];
        for (int k = 0; k < many; k++) {
            int[] numbers = new int[VARIABLES + 1];
            for (int i = 0; i <= VARIABLES; i++) numbers[i] = random.nextInt(3) == 0 ? 0 : random.nextInt(5) - 2;
            atoms.add(new Atom(numbers, relations[random.nextInt(relations.length)]));
            shape[k] = random.nextInt(3);
        }
        quantifiers = "";
        for (int i = 0; i < VARIABLES; i++) quantifiers += random.nextBoolean() ? 'E' : 'A';
    }

    private static String matrixText() {
        String s = text(atoms.get(0));
        for (int k = 1; k < atoms.size(); k++) {
            s = "(" + s + ")" + (shape[k] == 0 ? "&" : shape[k] == 1 ? "|" : "&!") + text(atoms.get(k));
        }
        return s;
    }

    private static LinearTruths typed(String text) {
        LinearTruths x = new LinearTruths();
        for (int i = 0; i < text.length(); i++) x.type(text.charAt(i), 1);
        return x;
    }

    public static void main(String[] args) {
        Random random = new Random(99);
        int wrong = 0, trues = 0;
        for (int run = 0; run < RUNS; run++) {
            random(random);
            int open = random.nextInt(VARIABLES + 1);
            Fraction[] values = new Fraction[VARIABLES];
            String text = "";
            for (int i = open; i < VARIABLES; i++) text += quantifiers.charAt(i) + "" + (char) ('a' + i) + ".";
            text += "(" + matrixText() + ")";
            LinearTruths x = typed(text);
            int read = x.read();
            for (int i = 0; i < open; i++) {
                int above = random.nextInt(7) - 3, below = 1 + random.nextInt(3);
                x.value(i, above, below);
                values[i] = Fraction.of(above, below);
            }
            int want = search(open, values) ? 1 : 0;
            trues += want;
            int decided = x.decide(), freed = x.frees(), held = x.holds();
            if (read != -1 || decided != want || freed < 1 || held != want) {
                if (++wrong <= 10) System.out.println(text + " with " + java.util.Arrays.toString(values) + ": read() " + read
                        + ", decide() " + decided + ", frees() " + freed + ", holds() " + held + ", the truth is " + want);
            }
        }
        System.out.println("truths: " + RUNS + " formulas, " + trues + " of them true");
        if (wrong > 0) System.exit(1);
    }
}
