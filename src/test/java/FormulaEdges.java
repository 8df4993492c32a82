/** Part 2 of the Terms and Promises 4, 5, 10 and 11: the edges of ATOMS, of SIMPLE and of POSITIVE ones. */
public final class FormulaEdges extends Check {
    private static final long MOST = 1_000_000_000;

    /** x > y is y - x < 0 as y < x is y - x < 0, x >= y likewise. */
    private static void relations() {
        reads("a<b", "a-b<0");
        reads("b>a", "a-b<0");
        reads("a<=b", "a-b<=0");
        reads("b>=a", "a-b<=0");
        reads("a>b", "-a+b<0");
        reads("a>=b", "-a+b<=0");
        reads("a=b", "a-b=0");
        reads("a!=b", "a-b!=0");
    }

    /** Of = and != with the first number that is not 0 (in the order a .. h) above 0. */
    private static void signs() {
        reads("b=a", "a-b=0");
        reads("-a=b", "a+b=0");
        reads("0=h", "h=0");
        reads("1=h", "h-1=0");
        reads("-1=h", "h+1=0");
        reads("0!=g-h", "g-h!=0");
        reads("h!=g", "g-h!=0");
        reads("a-a-b+c=0", "b-c=0");
        reads("-a<0", "-a<0");
        reads("-a<=0", "-a<=0");
        reads("-a-b-1<=0", "-a-b-1<=0");
    }

    /** Whole numbers without a common divisor. */
    private static void leastTerms() {
        reads("2a<0", "a<0");
        reads("-2a<0", "-a<0");
        reads("2a+4b<6", "a+2b-3<0");
        reads("4a-6b<=0", "2a-3b<=0");
        reads("2a+4b<5", "2a+4b-5<0");
        reads("6a+10b+15c=0", "6a+10b+15c=0");
        reads("1/2a+1/3b+1/4c<1/5", "30a+20b+15c-12<0");
        reads("1/12a<1/12", "a-1<0");
        reads("9999a!=9999", "a-1!=0");
        reads("0a+0b-3h<=12", "-h-4<=0");
        reads("11/12a+1/12a<0", "a<0");
        reads("1/11a+1/7b+1/9c+1/8d+1/5e<1", "2520a+3960b+3080c+3465d+5544e-27720<0");
    }

    /** An ATOM without VARIABLES is T or F. */
    private static void withoutVariables() {
        String[] relations = {"<", "<=", "=", "!=", ">", ">="};
        String[] results = {"TTFTFF", "FTTFFT", "FFFTTT"};
        for (int k = 0; k < relations.length; k++) {
            reads("1" + relations[k] + "2", results[0].substring(k, k + 1));
            reads("2/4" + relations[k] + "1/2", results[1].substring(k, k + 1));
            reads("1/2" + relations[k] + "1/3", results[2].substring(k, k + 1));
            reads("a+1" + relations[k] + "2+a", results[0].substring(k, k + 1));
            reads("0a" + relations[k] + "0h", results[1].substring(k, k + 1));
            reads("b-1/12" + relations[k] + "b-1/11", results[2].substring(k, k + 1));
        }
        due("an ATOM that is T has no VARIABLE", of("a<a+1").free(), 0);
        reads(spelled(MOST + 1, "") + "<0", "F");
        reads("0<" + spelled(MOST + 1, ""), "T");
        reads(spelled(3 * MOST, "") + "+a!=a", "T");
    }

    /** Promise 4: GREAT: a number of an ATOM is above 1,000,000,000, either way. */
    private static void greatNumbers() {
        String most = spelled(MOST, "a"), above = spelled(MOST + 1, "a"), one = spelled(1, "h");
        reads(most + "+" + one + "<0", "1000000000a+h<0");
        refused(above + "+" + one + "<0", -2);
        reads("0<=" + most + "+" + one, "-1000000000a-h<=0");
        refused("0<=" + above + "+" + one, -2);
        reads("0=" + most + "+" + one, "1000000000a+h=0");
        refused("0=" + above + "+" + one, -2);
        reads(one + "!=" + most, "1000000000a-h!=0");
        refused(one + "!=" + above, -2);
        String number = spelled(MOST, ""), aboveNumber = spelled(MOST + 1, "");
        reads(one + "<" + number, "h-1000000000<0");
        refused(one + "<" + aboveNumber, -2);
        reads(one + ">" + number, "-h+1000000000<0");
        refused(one + ">=" + aboveNumber, -2);
        reads(number + "+" + one + "=0", "h+1000000000=0");
        refused(aboveNumber + "+" + one + "=0", -2);
        reads(spelled(MOST - 1, "h") + "<" + spelled(MOST, "g"), "-1000000000g+999999999h<0");
        refused(spelled(MOST - 1, "h") + "<" + spelled(MOST + 1, "g"), -2);
    }

    /** What counts is the ATOM, all told and in least terms. */
    private static void greatInLeastTerms() {
        String two = spelled(2, "b"), one = spelled(1, "b");
        reads(spelled(MOST + 2, "a") + "<" + two, "500000001a-b<0");
        reads(spelled(2 * MOST, "a") + "<" + two, "1000000000a-b<0");
        refused(spelled(2 * MOST + 2, "a") + "<" + two, -2);
        reads(spelled(3 * MOST, "a") + "<0", "a<0");
        reads(spelled(MOST + 1, "a") + "-" + spelled(MOST + 1, "a").replace("+", "-") + "+b<0", "b<0");
        reads(spelled(MOST + 1, "a") + "+" + one + "<" + whole(1, "a"), "999972281a+b<0");
    }

    private static void greatAndFaults() {
        String great = spelled(MOST + 1, "a") + "+" + spelled(1, "h") + "<0";
        int end = great.length();
        refused(great + "&", end + 1);
        refused(great + ")", end);
        refused("(" + great, end + 1);
        refused(great + "&i", end + 1);
        refused(great + "&T", -2);
        refused(great + "&b<0", -2);
        refused("b<0&" + great, -2);
        refused("F&" + great, -2);
        refused(great + "&F", -2);
        refused("T|" + great, -2);
        refused(great + "|T", -2);
        refused(great + "->T", -2);
        refused("F->" + great, -2);
        refused("!" + great, -2);
        refused("Ea." + great, -2);
        refused("Eb." + great, -2);
        refused("Aa.(T|" + great + ")", -2);
        refused(" ".repeat(240 - end) + great, -2);
        LinearTruths x = new LinearTruths();
        due("GREAT, then none", read(x, great) + " " + read(x, "b<0") + written(x), "-2 -1b<0");
        due("GREAT, then a FAULT, then none", read(x, great) + " " + read(x, "b<") + " " + read(x, "c<0") + written(x), "-2 2 -1c<0");
        due("GREAT with a FAULT behind it, then none", read(x, great + "&") + " " + read(x, "d<0") + written(x), end + 1 + " -1d<0");
    }

    /** SIMPLE AND, OR: with T, F, and of two that are alike. */
    private static void simple() {
        String[] table = {"T", "F", "a<0", "(b<0&c<0)", "(b<0|c<0)", "Ea.a<b"};
        String[] written = {"T", "F", "a<0", "(b<0&c<0)", "(b<0|c<0)", "Ea.a-b<0"};
        for (int l = 0; l < table.length; l++) {
            for (int r = 0; r < table.length; r++) {
                String left = written[l], right = written[r];
                String and = l == 1 || r == 1 ? "F" : l == 0 ? right : r == 0 || l == r ? left : "(" + left + "&" + right + ")";
                String or = l == 0 || r == 0 ? "T" : l == 1 ? right : r == 1 || l == r ? left : "(" + left + "|" + right + ")";
                reads(table[l] + "&" + table[r], and);
                reads(table[l] + "|" + table[r], or);
                reads("!" + table[l] + "->" + table[r], or);
                reads("!(!" + table[l] + "|!" + table[r] + ")", and);
            }
        }
    }

    /** .. alike: the same tree. */
    private static void alike() {
        reads("2a<4b&0>-2b+a", "a-2b<0");
        reads("a=b|b=a", "a-b=0");
        reads("a<b|a<=b", "(a-b<0|a-b<=0)");
        reads("a=b|a!=b", "(a-b=0|a-b!=0)");
        reads("a<0&a<1", "(a<0&a-1<0)");
        reads("a<0&b<0", "(a<0&b<0)");
        reads("a<0|-a<0", "(a<0|-a<0)");
        reads("(a<0&b<0)|(a<0&b<0)", "(a<0&b<0)");
        reads("(a<0&b<0)|(b<0&a<0)", "((a<0&b<0)|(b<0&a<0))");
        reads("(a<0&b<0)|(a<0|b<0)", "((a<0&b<0)|(a<0|b<0))");
        reads("a<0&b<0&b<0", "((a<0&b<0)&b<0)");
        reads("a<0&(b<0&b<0)", "(a<0&b<0)");
        reads("a<0&a<0&a<0", "a<0");
        reads("a<0|b<0|(a<0|b<0)", "(a<0|b<0)");
        reads("(a<0|b<0|c<0)&(a<0|(b<0|c<0))", "(((a<0|b<0)|c<0)&(a<0|(b<0|c<0)))");
        reads("Ea.a<0&Ea.a<0", "Ea.a<0");
        reads("Ea.a<0&Aa.a<0", "(Ea.a<0&Aa.a<0)");
        reads("Ea.a<0&Eb.b<0", "(Ea.a<0&Eb.b<0)");
        reads("Ea.a<b|Eb.a<b", "(Ea.a-b<0|Eb.a-b<0)");
        reads("Ea.(a<b&(T|c<0))|Ea.a<b", "Ea.a-b<0");
        reads("(a<0&T)|(F|a<0)", "a<0");
    }

    /** POSITIVE: not goes inward, -> becomes OR. */
    private static void positive() {
        reads("!T", "F");
        reads("!F", "T");
        reads("!a=b", "a-b!=0");
        reads("!a!=b", "a-b=0");
        reads("!a<1", "-a+1<=0");
        reads("!a<=1", "-a+1<0");
        reads("!a>1", "a-1<=0");
        reads("!a>=1", "a-1<0");
        reads("!(a<0&b<0)", "(-a<=0|-b<=0)");
        reads("!(a<0|b<0)", "(-a<=0&-b<=0)");
        reads("!Ea.a<b", "Aa.-a+b<=0");
        reads("!Aa.a<b", "Ea.-a+b<=0");
        reads("!(a<0->b<0)", "(a<0&-b<=0)");
        reads("!a<0->b<0", "(a<0|b<0)");
        reads("!a<0&b<0", "(-a<=0&b<0)");
        reads("!Ea.a<b&c<0", "(Aa.-a+b<=0&c<0)");
        reads("a<0->b<0", "(-a<=0|b<0)");
        reads("a<0->b<0->c<0", "(-a<=0|(-b<=0|c<0))");
        reads("(a<0->b<0)->c<0", "((a<0&-b<=0)|c<0)");
        reads("a<0->b<0->c<0->d<0", "(-a<=0|(-b<=0|(-c<=0|d<0)))");
        reads("a<0|b<0|c<0|d<0", "(((a<0|b<0)|c<0)|d<0)");
        reads("a<0&b<0&c<0&d<0", "(((a<0&b<0)&c<0)&d<0)");
        reads("a<0&b<0|c<0&d<0->e<0", "(((-a<=0|-b<=0)&(-c<=0|-d<=0))|e<0)");
        reads("T->a<0", "a<0");
        reads("F->a<0", "T");
        reads("a<0->T", "T");
        reads("a<0->F", "-a<=0");
        reads("a<0->a<0", "(-a<=0|a<0)");
        reads("a<0->!a<0", "-a<=0");
    }

    /** E, A of something in which the VARIABLE is not FREE is that alone. */
    private static void notFree() {
        for (String binder : new String[] {"E", "A"}) {
            reads(binder + "a.T", "T");
            reads(binder + "a.F", "F");
            reads(binder + "a.b<0", "b<0");
            reads(binder + "a.a<a+b", "-b<0");
            reads(binder + "a.(a<0&F)", "F");
            reads(binder + "a.(a<0|T)", "T");
            reads(binder + "a.(F&a<0|b<0)", "b<0");
            reads(binder + "a.0a<b", "-b<0");
            reads(binder + "a.Ea.a<0", "Ea.a<0");
            reads(binder + "a.Aa.a<0", "Aa.a<0");
            reads(binder + "a.(Ea.a<b|b=0)", "(Ea.a-b<0|b=0)");
            reads(binder + "a.(Ea.a<b|a=0)", binder + "a.(Ea.a-b<0|a=0)");
            reads(binder + "a." + binder + "b.c<0", "c<0");
            reads(binder + "a." + binder + "b.a<c", binder + "a.a-c<0");
            reads(binder + "b." + binder + "a.a<b", binder + "b." + binder + "a.a-b<0");
            reads("!" + binder + "a.b<0", "-b<=0");
            due(binder + " that is left out", shape(of(binder + "a.b<0")), "1 1 0 1");
        }
    }

    /** Promise 5: bits of the VARIABLES that are FREE, met in an ATOM outside of all E, A of it. */
    private static void freeBits() {
        due("free() of T and F", of("T").free() + of("F").free(), 0);
        due("free() of all", of("a+b+c+d=e+f+g+h").free(), 255);
        due("free() of what fell out", of("a-a+b<c-0h").free(), 6);
        due("free() of what AND left out", of("a<0&F").free(), 0);
        due("free() of what AND left in", of("T&b<0").free() + of("b<0&T").free(), 4);
        due("free() of what OR left out", of("a<0|T|b<0").free(), 0);
        due("free() of two sides", of("a<0&c<0|h<0").free(), 133);
        due("free() of what is bound", of("Ea.a<0").free(), 0);
        due("free() beside what is bound", of("Ea.a<b").free(), 2);
        due("free() bound and not, before", of("a<b&Ea.a<c").free(), 7);
        due("free() bound and not, behind", of("Ea.a<c&a<b").free(), 7);
        due("free() bound and not, inside", of("Ea.(Ea.a<c&a<b)").free(), 6);
        due("free() of two bound", of("Ea.Ab.(a<b&c<d)").free(), 12);
        LinearTruths x = of("Ea.(a>b&a<c)");
        x.not();
        due("free() behind not()", x.free(), 6);
        due("free() behind a fault", read(x, "h<") + " " + x.free(), "2 6");
        x.decide();
        due("free() behind decide()", x.free(), 6);
        due("free() behind frees()", x.frees() + " " + x.free(), "1 6");
        due("free() of what got lost", read(x, "Ea.(a!=b)") + " " + x.free() + " " + x.frees() + " " + x.free(), "-1 2 1 0");
    }

    /** Promise 10: the formula becomes its not: how many NODES. */
    private static void nots() {
        String[][] pairs = {{"T", "F"}, {"a=0", "a!=0"}, {"a<0", "-a<=0"}, {"a-b+1<=0", "-a+b-1<0"}, {"(a<0&b=0)", "(-a<=0|b!=0)"},
            {"Ea.a-b<0", "Aa.-a+b<=0"}, {"Aa.Eb.(a-b=0|b<0)", "Ea.Ab.(a-b!=0&-b<=0)"}};
        int[] nodes = {1, 1, 1, 1, 3, 2, 5};
        for (int k = 0; k < pairs.length; k++) {
            LinearTruths x = of(pairs[k][0]);
            due("not() of " + pairs[k][0], x.not() + written(x), nodes[k] + pairs[k][1]);
            due("not() of " + pairs[k][1], x.not() + written(x), nodes[k] + pairs[k][0]);
        }
        LinearTruths most = of(spelled(MOST, "a") + "<" + spelled(1, "h"));
        due("not() of the greatest number", most.not() + written(most), "1-1000000000a+h<=0");
        due("not() of the least number", most.not() + written(most), "11000000000a-h<0");
        LinearTruths x = of("a<0");
        x.not();
        due("not() leaves the TEXT", x.read() + written(x) + x.clear(), "-1a<03");
    }

    /** Promise 11: NODES (0), ATOMS (1), E and A (2), how deep it is (3: 1 of T, F, an ATOM). */
    private static void shapes() {
        String[][] cases = {{"T", "1 0 0 1"}, {"F", "1 0 0 1"}, {"a<0", "1 1 0 1"}, {"a=0", "1 1 0 1"}, {"a!=0", "1 1 0 1"},
            {"a<=0", "1 1 0 1"}, {"a<0&b<0", "3 2 0 2"}, {"a<0|b<0", "3 2 0 2"}, {"Ea.a<0", "2 1 1 2"}, {"Aa.a<0", "2 1 1 2"},
            {"Ea.Ab.a<b", "3 1 2 3"}, {"a<0&b<0&c<0", "5 3 0 3"}, {"a<0&(b<0&c<0)", "5 3 0 3"},
            {"(a<0&b<0)|(c<0&d<0)", "7 4 0 3"}, {"Ea.(a<0&Ab.(b<a|b<0))", "7 3 2 5"}, {"Ea.(Ab.(b<a|b<0)&a<0)", "7 3 2 5"},
            {"Ea.a<0|b<0", "4 2 1 3"}, {"!(a<0->b<0)", "3 2 0 2"}};
        for (String[] one : cases) due("told() of " + one[0], shape(of(one[0])), one[1]);
        String deep = "Ea.Eb.Ec.Ed.Ee.".repeat(4) + "(a+b+c+d+e<0)";
        refused(deep, 60);
        due("told() of what E leaves out", shape(of(deep.replaceAll("[()]", ""))), "6 1 5 6");
        String right = "a<0&(b<0|(c<0&(d<0|(e<0&(f<0|(g<0&(h<0|(a<1&(b<1|(c<1&(d<1|(e<1&(f<1|(g<1&(h<1|(a<2&(b<2|(c<2&(d<2|(e<2&f<2"
                + ")".repeat(20);
        due("told() of a deep one", shape(of(right)), "43 22 0 22");
        StringBuilder left = new StringBuilder("a<0");
        for (int k = 1; k < 60; k++) left.append('&').append((char) ('a' + k % 8)).append("<").append(k % 10);
        String chain = left.toString();
        due("a long chain's bytes", chain.length(), 239);
        due("told() of a long chain", shape(of(chain)), "119 60 0 60");
        due("told() of a long chain of ->", shape(of(chain.substring(0, 191).replace("&", "->"))), "95 48 0 48");
    }

    /** Promise 11: IllegalArgumentException: another what. */
    private static void toldOthers() {
        for (int what : new int[] {Integer.MIN_VALUE, -256, -6, -1, 6, 7, 8, 256, Integer.MAX_VALUE}) {
            LinearTruths x = of("Ea.(a>b&a<c)");
            due("told(" + what + ")", told(x, what), "IllegalArgumentException");
            due("behind told(" + what + ")", shape(x) + " " + effort(x) + written(x), "4 2 1 3 0 0Ea.(-a+b<0&a-c<0)");
        }
        LinearTruths x = of("Ea.(a>b&a<c)");
        for (int what = 0; what <= 5; what++) due("told(" + what + ")", told(x, what), new int[] {4, 2, 1, 3, 0, 0}[what]);
    }

    public static void main(String[] args) {
        relations();
        signs();
        leastTerms();
        withoutVariables();
        greatNumbers();
        greatInLeastTerms();
        greatAndFaults();
        simple();
        alike();
        positive();
        notFree();
        freeBits();
        nots();
        shapes();
        toldOthers();
        end("formula edges");
    }
}
