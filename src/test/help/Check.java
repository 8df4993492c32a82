import java.util.function.Supplier;

/** What the tests of single answers share: they extend it, since a class without a package has no imports. */
abstract class Check {
    /** All numbers that may stand below a fraction stroke divide it. */
    private static final int STROKE_MULTIPLE = 27_720;

    private static int checks = 0;
    private static int wrong = 0;

    static void due(String what, Object got, Object want) {
        checks++;
        if (!String.valueOf(got).equals(String.valueOf(want))) {
            wrong++;
            System.out.println(what + ": answered " + got + ", due is " + want);
        }
    }

    static void end(String name) {
        System.out.println(name + ": " + checks + " checks, " + wrong + " wrong");
        if (wrong > 0) System.exit(1);
    }

    /** The answer, or the name of the exception. */
    static String answer(Supplier<Object> call) {
        try {
            return String.valueOf(call.get());
        } catch (RuntimeException e) {
            return e.getClass().getSimpleName();
        }
    }

    static String type(LinearTruths x, long bytes, int n) {
        return answer(() -> x.type(bytes, n));
    }

    static String value(LinearTruths x, int variable, int above, int below) {
        return answer(() -> {
            x.value(variable, above, below);
            return "void";
        });
    }

    static String holds(LinearTruths x) {
        return answer(x::holds);
    }

    static String told(LinearTruths x, int what) {
        return answer(() -> x.told(what));
    }

    /** All that told() tells of the formula. */
    static String shape(LinearTruths x) {
        return x.told(0) + " " + x.told(1) + " " + x.told(2) + " " + x.told(3);
    }

    /** All that told() tells of the last freeing. */
    static String effort(LinearTruths x) {
        return x.told(4) + " " + x.told(5);
    }

    /** Up to eight letters as type() takes and out() gives them. */
    static long bytes(String letters) {
        long all = 0;
        for (int k = letters.length() - 1; k >= 0; k--) all = all << 8 | letters.charAt(k);
        return all;
    }

    /** Types a text behind what is there. */
    static void more(LinearTruths x, String text) {
        for (int i = 0; i < text.length(); i += 8) {
            String some = text.substring(i, Math.min(i + 8, text.length()));
            x.type(bytes(some), some.length());
        }
    }

    static void text(LinearTruths x, String text) {
        x.clear();
        more(x, text);
    }

    static int read(LinearTruths x, String text) {
        text(x, text);
        return x.read();
    }

    static LinearTruths of(String text) {
        LinearTruths x = new LinearTruths();
        due("read() of " + text, read(x, text), -1);
        return x;
    }

    /** What out() gives of so many bytes. */
    static String outs(LinearTruths x, int length) {
        StringBuilder s = new StringBuilder();
        for (int i = 0; i < length; i += 8) {
            long eight = x.out(i);
            for (int k = 0; k < 8 && i + k < length; k++) s.append((char) (eight >>> 8 * k & 255));
        }
        return s.toString();
    }

    static String written(LinearTruths x) {
        return outs(x, Math.min(x.write(), 12_000));
    }

    static void reads(String text, String formula) {
        due(text + " read and written", written(of(text)), formula);
    }

    /** A text that read() refuses, with the place of its FAULT or GREAT; the formula and the TEXT stay. */
    static void refused(String text, int answer) {
        LinearTruths x = of("b<7");
        due("read() of '" + text + "'", read(x, text), answer);
        due("the formula behind '" + text + "'", written(x) + x.free(), "b-7<02");
        due("read() again of '" + text + "'", x.read(), answer);
        due("the TEXT behind '" + text + "'", x.clear(), text.length());
    }

    /** A text, what is FREED of it, TEST POINTS that were put in, VARIABLES that were taken out. */
    static void freed(String text, String formula, int points, int variables) {
        LinearTruths x = of(text);
        int nodes = x.frees();
        due(text + " freed", written(x), formula);
        due(text + ": frees() and told(0)", nodes, x.told(0));
        due(text + ": told(4), told(5)", effort(x), points + " " + variables);
        due(text + ": free() behind frees()", x.free(), letters(formula));
    }

    /** Bits of the VARIABLES in a formula without E and A. */
    private static int letters(String formula) {
        int bits = 0;
        for (char v = 'a'; v <= 'h'; v++) bits |= formula.indexOf(v) < 0 ? 0 : 1 << v - 'a';
        return bits;
    }

    /** A whole number of a VARIABLE, or of nothing, as a sum of NUMBERS without a stroke. */
    static String whole(long number, String variable) {
        StringBuilder s = new StringBuilder(number < 0 ? "-" : "");
        long rest = Math.abs(number);
        String minus = number < 0 ? "-" : "+";
        for (; rest > 9999; rest -= 9999) s.append(9999).append(variable).append(minus);
        return s.append(rest).append(variable).toString();
    }

    /** As whole(), the number being divided by 27,720: of a relation of such sums all numbers come out whole. */
    static String spelled(long number, String variable) {
        StringBuilder s = new StringBuilder();
        long rest = number;
        for (int below : new int[] {5, 7, 8, 9, 11}) {
            long unit = STROKE_MULTIPLE / below;
            int above = 0;
            while ((above * unit - number) % below != 0) above++;
            rest -= above * unit;
            if (above > 0) s.append(above).append('/').append(below).append(variable).append('+');
        }
        return s.append(whole(rest / STROKE_MULTIPLE, variable)).toString().replace("+-", "-");
    }
}
