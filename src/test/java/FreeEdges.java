/** Parts 3 and 4 of the Terms and Promises 6 to 9 and 11: the edges of freeing and of values. */
public final class FreeEdges extends Check {
    private static final long MOST = 1_000_000_000;

    /** Their product is 1,000,000,001; that of 40,000 and 25,000 one less. */
    private static final int LEFT = 52_579, RIGHT = 19_019;

    /** A formula is FREED from within: AND and OR of the FREED ones. */
    private static void without() {
        for (String text : new String[] {"T", "F", "a-b<0", "a=0", "a!=0", "a<=0", "(a<0&b<0)", "((a<0|b<0)&c=0)"}) {
            freed(text, text, 0, 0);
        }
        freed("Ea.a<0&Eb.b<0", "T", 2, 2);
        freed("Ea.a<0&b<0", "b<0", 1, 1);
        freed("b<0&Ea.a<0", "b<0", 1, 1);
        freed("Ea.a<0|b<0", "T", 1, 1);
        freed("Aa.a<0&b<0", "F", 2, 1);
        freed("Aa.a<0|b<0", "b<0", 2, 1);
        freed("b<0|Aa.a<0", "b<0", 2, 1);
        freed("c<b&Ea.(a>c&a<b)", "-b+c<0", 2, 1);
        freed("Ea.(a>c&a<b)|c<b", "-b+c<0", 2, 1);
        freed("Ea.(a>c&a<b)&Ea.(a>b&a<c)", "(-b+c<0&b-c<0)", 4, 2);
    }

    /** E x of p, p FREED: p itself if x is not in it. */
    private static void notInIt() {
        freed("Ea.Eb.b>a", "T", 2, 1);
        freed("Aa.Eb.b>a", "T", 2, 1);
        freed("Ea.(Eb.b>a&c<0)", "c<0", 2, 1);
        freed("Aa.(Ab.b>a|c<0)", "c<0", 1, 1);
        freed("Ea.Eb.(b>a&b<a)", "F", 2, 1);
        freed("Ea.(c<0|a=b&Ed.(d<a&d>a))", "c<0", 2, 1);
    }

    /** TEST POINTS: minus infinity first; of each ATOM what it asks for. */
    private static void points() {
        freed("Ea.a<b", "T", 1, 1);
        freed("Ea.a<=b", "T", 1, 1);
        freed("Ea.a!=b", "T", 1, 1);
        freed("Ea.a=b", "T", 2, 1);
        freed("Ea.a>b", "T", 2, 1);
        freed("Ea.a>=b", "T", 2, 1);
        freed("Ea.(a<b&c<0)", "c<0", 1, 1);
        freed("Ea.(a<=b&c<0)", "c<0", 1, 1);
        freed("Ea.(a!=b&c<0)", "c<0", 2, 1);
        freed("Ea.(a=b&c<0)", "c<0", 2, 1);
        freed("Ea.(a>b&c<0)", "c<0", 2, 1);
        freed("Ea.(a>=b&c<0)", "c<0", 2, 1);
        freed("Ea.(b<0&c<0&a<0)", "(b<0&c<0)", 1, 1);
        freed("Ea.(a<b&a<=c&a<d)", "T", 1, 1);
        freed("Ea.(a<0&a>0)", "F", 2, 1);
        freed("Ea.(a<=0&a>0)", "F", 2, 1);
        freed("Ea.(a<0&a>=0)", "F", 2, 1);
        freed("Ea.(a<=0&a>=0)", "T", 2, 1);
        freed("Ea.(a=0&a!=0)", "F", 3, 1);
        freed("Ea.(a=0&a>0)", "F", 3, 1);
        freed("Ea.(a>=0&a>0)", "T", 3, 1);
        freed("Ea.(a>0&a>=0)", "T", 2, 1);
    }

    /** .. each once (the same ones, written in least terms, with or without the LITTLE, count once). */
    private static void pointsOnce() {
        freed("Ea.(a>b&2a>2b&F|a>b&c<0)", "c<0", 2, 1);
        freed("Ea.((a>b|d<0)&(2a>2b|e<0)&c<0)", "(((d<0&e<0)&c<0)|c<0)", 2, 1);
        freed("Ea.((a>b|d<0)&(a!=b|e<0)&c<0)", "((d<0&c<0)|c<0)", 2, 1);
        freed("Ea.((a>=b|d<0)&(a=b|e<0)&c<0)", "(((d<0&e<0)&c<0)|c<0)", 2, 1);
        freed("Ea.((a>=b|d<0)&(a>b|e<0)&c<0)", "((((d<0&e<0)&c<0)|(e<0&c<0))|c<0)", 3, 1);
        freed("Ea.((2a>=1|d<0)&(4a>=2+0b|e<0)&c<0)", "(((d<0&e<0)&c<0)|c<0)", 2, 1);
        freed("Ea.((2a=b|d<0)&(a=1/2b|e<0)&c<0)", "(((d<0&e<0)&c<0)|c<0)", 2, 1);
        freed("Ea.((a=b|d<0)&(a=2b|e<0)&c<0)", "((((d<0&e<0)&c<0)|((b=0|e<0)&c<0))|((b=0|d<0)&c<0))", 3, 1);
        freed("Ea.((a=b|d<0)&(a=-b|e<0)&c<0)", "((((d<0&e<0)&c<0)|((b=0|e<0)&c<0))|((b=0|d<0)&c<0))", 3, 1);
    }

    /** An ATOM d x + u REL 0 with minus infinity: = F, != T, else T if d is above 0, F if below; without x it stays. */
    private static void minusInfinity() {
        freed("Ea.((a=b|d<0)&e<0)", "((d<0&e<0)|e<0)", 2, 1);
        freed("Ea.((a!=b|d<0)&e<0)", "e<0", 2, 1);
        freed("Ea.((a<b|d<0)&e<0)", "e<0", 1, 1);
        freed("Ea.((a<=b|d<0)&e<0)", "e<0", 1, 1);
        freed("Ea.((a>b|d<0)&e<0)", "((d<0&e<0)|e<0)", 2, 1);
        freed("Ea.((a>=b|d<0)&e<0)", "((d<0&e<0)|e<0)", 2, 1);
        freed("Ea.(d<0|e<0&a<b)", "(d<0|e<0)", 1, 1);
        freed("Ea.(d=0&e!=0&f<=0&a<b)", "((d=0&e!=0)&f<=0)", 1, 1);
    }

    /** An ATOM d x + u REL 0 with a point: that in place of x; without x it stays. */
    private static void plainPoint() {
        freed("Ea.(a=b&a=c)", "b-c=0", 3, 1);
        freed("Ea.(a=b&a!=c)", "b-c!=0", 3, 1);
        freed("Ea.(a=b&a<c)", "b-c<0", 2, 1);
        freed("Ea.(a=b&a<=c)", "b-c<=0", 2, 1);
        freed("Ea.(a=b&a>c)", "-b+c<0", 3, 1);
        freed("Ea.(a=b&a>=c)", "(-b+c<=0|b-c=0)", 3, 1);
        freed("Ea.(a=b&c!=0&d<=1)", "(c!=0&d-1<=0)", 2, 1);
        freed("Ea.(2a=b&3a<c)", "3b-2c<0", 2, 1);
        freed("Ea.(2a=b&3a>c)", "-3b+2c<0", 3, 1);
        freed("Ea.(-2a=b&3a<=c+1)", "-3b-2c-2<=0", 2, 1);
        freed("Ea.(2a=b+1&4a<2c)", "b-c+1<0", 2, 1);
        freed("Ea.(a=b&b+a<c)", "2b-c<0", 2, 1);
        freed("Ea.(a=b&a-b<c)", "-c<0", 2, 1);
        freed("Ea.(a=b&a<b+1)", "T", 2, 1);
    }

    /** The point and a LITTLE more: = F, != T, else < if d is above 0, <= if below. */
    private static void littleMore() {
        freed("Ea.(a>b&a<c)", "b-c<0", 2, 1);
        freed("Ea.(a>b&a<=c)", "b-c<0", 2, 1);
        freed("Ea.(a>b&(a>c|d<0)&a<e)", "(((-b+c<=0|d<0)&b-e<0)|(b-c<=0&c-e<0))", 3, 1);
        freed("Ea.(a>b&a=c)", "b-c<0", 3, 1);
        freed("Ea.(a>b&a!=c)", "T", 2, 1);
        freed("Ea.(a>b&(a=c|d<0))", "(d<0|b-c<0)", 3, 1);
        freed("Ea.(a>b&a>=c)", "(-b+c<=0|b-c<0)", 3, 1);
        freed("Ea.(a>b&a>c)", "(-b+c<=0|b-c<=0)", 3, 1);
        freed("Ea.(a>=c&a>b)", "(b-c<0|-b+c<=0)", 3, 1);
        freed("Ea.(2a>b&3a<=c)", "3b-2c<0", 2, 1);
        freed("Ea.(2a>b&3a>=c)", "(-3b+2c<=0|3b-2c<0)", 3, 1);
    }

    /** .. the OR, one behind the other from the left, as long as it is not T. */
    private static void tillT() {
        freed("Ea.(a<0|a=b)", "T", 1, 1);
        freed("Ea.(a>0|a=b)", "T", 2, 1);
        freed("Ea.(a=b&c<0|a>=0&a<=0|a=d)", "T", 3, 1);
        freed("Ea.(b<0&a=1|b<1&a=2|b<2&a=3)", "((b<0|b-1<0)|b-2<0)", 4, 1);
        freed("Ea.(b<0&a=1|b<1&a=2|b<2&a=1)", "((b<0|b-2<0)|b-1<0)", 3, 1);
        freed("Ea.(b<0&a=1|b<0&a=2|b<2&a=3)", "(b<0|b-2<0)", 4, 1);
        freed("Ea.(b<0&a=1|b<1&a=2|b<0&a=3)", "((b<0|b-1<0)|b<0)", 4, 1);
    }

    /** A x of p: not of E x of not p. */
    private static void forAll() {
        freed("Aa.a<b", "F", 2, 1);
        freed("Aa.a>b", "F", 1, 1);
        freed("Aa.(a<=b|a>=c)", "-b+c<=0", 2, 1);
        freed("Aa.(a<b|a>c)", "-b+c<0", 2, 1);
        freed("Aa.(a!=b|a<c)", "(b-c<0&b-c!=0)", 3, 1);
        freed("Aa.(a=b->c<0)", "c<0", 2, 1);
        freed("Aa.(b>=0|a!=1&b>=1|a!=2)", "(-b<=0|-b+1<=0)", 3, 1);
        freed("Aa.Ab.(a<b|a>=b)", "T", 2, 1);
        freed("Aa.Eb.(a<b&b<c)", "F", 4, 2);
        freed("Ea.Ab.(b<=0|a<b)", "T", 3, 2);
    }

    /** E of an a above so many b and, so many times, below something: freed, b has the product as its number. */
    private static String between(long left, long right, String above) {
        return "Ea.(a>" + whole(left, "b") + "&" + whole(right, "a") + "<" + above + ")";
    }

    /** The not of that, by hand. */
    private static String around(long left, long right, String above) {
        return "Aa.(a<=" + whole(left, "b") + "|" + whole(right, "a") + ">=" + above + ")";
    }

    private static void great(String text, int points, int variables) {
        LinearTruths x = of(text);
        String before = written(x);
        int bits = x.free();
        due("frees() of " + text, x.frees(), -2);
        due("told(4), told(5) of " + text, effort(x), points + " " + variables);
        due("the formula behind " + text, written(x) + x.free(), before + bits);
        due("frees() again of " + text, x.frees(), -2);
    }

    /** GREAT: a number of an ATOM would be above 1,000,000,000 (either way). */
    private static void greatNumbers() {
        freed(between(40_000, 25_000, "c"), "1000000000b-c<0", 2, 1);
        great(between(LEFT, RIGHT, "c"), 2, 0);
        freed(between(-40_000, 25_000, "c"), "-1000000000b-c<0", 2, 1);
        great(between(-LEFT, RIGHT, "c"), 2, 0);
        freed(between(40_000, 25_000, "c").replace("b", ""), "-c+1000000000<0", 2, 1);
        great(between(LEFT, RIGHT, "c").replace("b", ""), 2, 0);
        freed(between(-40_000, 25_000, "c").replace("b", ""), "-c-1000000000<0", 2, 1);
        great(between(-LEFT, RIGHT, "c").replace("b", ""), 2, 0);
        freed(around(40_000, 25_000, "c"), "-1000000000b+c<=0", 2, 1);
        great(around(LEFT, RIGHT, "c"), 2, 0);
        freed(between(40_000, 25_000, "c").replace('>', '='), "1000000000b-c<0", 2, 1);
        great(between(LEFT, RIGHT, "c").replace('>', '='), 2, 0);
        freed(between(40_000, 25_000, "c").replace(">", ">="), "1000000000b-c<0", 2, 1);
        great(between(LEFT, RIGHT, "c").replace(">", ">="), 2, 0);
        great(between(LEFT, RIGHT, "c").replace('<', '='), 3, 0);
        great("d<0&" + between(LEFT, RIGHT, "c"), 2, 0);
        great("F|" + between(LEFT, RIGHT, "c") + "&d<0", 2, 0);
        great("Ed.(d>e&d<f)&" + between(LEFT, RIGHT, "c"), 4, 1);
        great(between(LEFT, RIGHT, "c") + "&Ed.(d>e&d<f)", 2, 0);
        great("Ed.(d<0|" + between(LEFT, RIGHT, "c") + ")", 2, 0);
        great("Ec." + between(LEFT, RIGHT, "c"), 2, 0);
    }

    /** .. and what is no GREAT number: in least terms, without VARIABLES, not put in. */
    private static void noGreatNumbers() {
        freed(between(LEFT, RIGHT, "7c"), "142857143b-c<0", 2, 1);
        freed(between(LEFT, RIGHT, "0"), "b<0", 2, 1);
        freed(between(LEFT, RIGHT, "1").replace("b", ""), "F", 2, 1);
        freed(between(-LEFT, RIGHT, "1").replace("b", ""), "T", 2, 1);
        freed(between(LEFT, RIGHT, "c").replace('&', '|'), "T", 1, 1);
        freed(between(LEFT, RIGHT, "c").replace("<", "!="), "T", 2, 1);
        freed("F&" + between(LEFT, RIGHT, "c"), "F", 0, 0);
        freed("T|" + between(LEFT, RIGHT, "c"), "T", 0, 0);
    }

    /** A chain of ATOMS that begin so: one of each VARIABLE b .. g with a number, then with the next one. */
    private static String borders(String start, int first, int count) {
        StringBuilder s = new StringBuilder();
        for (int k = 0; k < count; k++) s.append('&').append(start).append(first + k / 6).append((char) ('b' + k % 6));
        return s.toString();
    }

    /** Freed it has below * (below - 1 + above) ATOMS, and 2 NODES for each of them but one. */
    private static String thick(int below, int above) {
        return "Ea.(T" + borders("a>", 1, below) + borders("a<", 3, above) + ")";
    }

    /** The not of a thick one, by hand. */
    private static String thickAll(int below, int above) {
        return "Aa.(F" + borders("a<=", 1, below).replace('&', '|') + borders("a>=", 3, above).replace('&', '|') + ")";
    }

    private static void nodes(String text, int nodes, String effort) {
        LinearTruths x = of(text);
        String before = written(x);
        due("frees() of " + text, x.frees(), nodes);
        due("told() of " + text, effort(x), effort);
        due("told(0) behind " + text, x.told(0) == nodes || nodes == -2 && written(x).equals(before), true);
    }

    /** GREAT: what is FREED of an AND or OR would have more than 400 NODES. */
    private static void greatJoints() {
        String most = thick(7, 22), four = "h<0&h<1&h<2&h<3";
        nodes(most, 391, "8 1");
        nodes(most + "&(" + four + ")", 399, "8 1");
        nodes(most + "|" + four, 399, "8 1");
        nodes("(" + four + ")&" + most, 399, "8 1");
        nodes(most + "&(" + four + "&h<4)", -2, "8 1");
        nodes(most + "|" + four + "&h<4", -2, "8 1");
        nodes("(" + four + "&h<4)&" + most, -2, "8 1");
        nodes(most + "&" + four, 399, "8 1");
        nodes(most + "&" + four + "&h<4", -2, "8 1");
        nodes(most + "&(" + four + "&h<4)&Ah.h<0", -2, "8 1");
        nodes(most + "&(Ah.h<0&(" + four + "&h<4))", 1, "10 2");
        nodes(most + "|(Eh.h<0|(" + four + "&h<4))", 1, "9 2");
        nodes("Ah.(" + most + "|(" + four + "&h<4))", -2, "8 1");
        nodes("Eh.(" + most + "&(" + four + "))", 391, "9 2");
    }

    /** GREAT: an OR so far would have more than 400 NODES. */
    private static void greatOrs() {
        nodes(thick(8, 18), 399, "9 1");
        nodes(thick(8, 19), -2, "9 0");
        nodes(thickAll(8, 18), 399, "9 1");
        nodes(thickAll(8, 19), -2, "9 0");
        nodes(thick(8, 18).replace(")", "|a=h)"), 1, "10 1");
        nodes(thick(8, 19).replace(")", "|a=h)"), -2, "9 0");
        nodes("Ea.(a<0|" + thick(8, 18).substring(4), 1, "1 1");
        nodes(thick(8, 18) + "&h<0", -2, "9 1");
    }

    /** Promise 11: of the last time something was FREED (also by decide(), also if GREAT). */
    private static void lastTime() {
        LinearTruths x = of("Ea.(a>b&a<c)");
        due("told() before the first time", effort(x), "0 0");
        x.decide();
        due("told() behind decide()", effort(x), "2 1");
        x.not();
        x.write();
        x.pass();
        x.value(3, 1, 1);
        due("told() behind others", effort(x), "2 1");
        read(x, "Ea.Eb.(a=1&b=2)");
        due("told() behind read()", effort(x), "2 1");
        x.frees();
        due("told() behind frees()", effort(x), "4 2");
        holds(x);
        due("told() behind holds()", effort(x), "4 2");
        x.frees();
        due("told() behind frees() without E, A", effort(x), "0 0");
        read(x, between(LEFT, RIGHT, "c"));
        x.frees();
        due("told() behind frees() that is GREAT", effort(x), "2 0");
        read(x, "d<0|" + between(LEFT, RIGHT, "c").replace("a>", "a>9"));
        x.value(1, 1, 1);
        x.decide();
        due("told() behind decide() that has values", effort(x), "2 1");
        read(x, "Ec.Ed." + between(LEFT, RIGHT, "c").replace('b', 'd'));
        due("decide() that is GREAT", x.decide() + " " + effort(x), "-2 2 0");
        read(x, "T");
        due("decide() of T", x.decide() + " " + effort(x), "1 0 0");
    }

    /** Promise 7: IllegalArgumentException: no such one, above is not -99 .. 99, below not 1 .. 9. */
    private static void values() {
        int[][] refused = {{-1, 0, 1}, {8, 0, 1}, {9, 0, 1}, {255, 0, 1}, {Integer.MIN_VALUE, 0, 1}, {Integer.MAX_VALUE, 0, 1},
            {2, -100, 1}, {2, 100, 1}, {2, 101, 1}, {2, Integer.MIN_VALUE, 1}, {2, Integer.MAX_VALUE, 1}, {2, 7, 0}, {2, 7, -1},
            {2, 7, -9}, {2, 7, 10}, {2, 7, 11}, {2, 7, Integer.MIN_VALUE}, {2, 7, Integer.MAX_VALUE}, {8, 100, 10}, {-1, -100, 0}};
        for (int[] one : refused) {
            LinearTruths x = of("a=0&b=0&c=5/3&d=0&e=0&f=0&g=0&h=0");
            x.value(2, 5, 3);
            due("value " + one[0] + " " + one[1] + " " + one[2], value(x, one[0], one[1], one[2]), "IllegalArgumentException");
            due("holds() behind it", holds(x) + x.decide(), "11");
        }
        for (int variable = 0; variable < 8; variable++) {
            for (int above : new int[] {-99, -98, -1, 0, 1, 98, 99}) {
                for (int below = 1; below <= 9; below++) {
                    String name = String.valueOf((char) ('a' + variable));
                    LinearTruths x = of(name + "=" + (above < 0 ? "-" : "") + Math.abs(above) + "/" + below);
                    due("value", value(x, variable, above, below), "void");
                    due(name + " = " + above + "/" + below, holds(x) + x.decide(), "11");
                }
            }
        }
    }

    private static void valuesAgain() {
        LinearTruths x = of("a=1/2");
        due("values are fractions", value(x, 0, 4, 8) + holds(x) + x.decide(), "void11");
        due("a value goes", value(x, 0, 1, 3) + holds(x) + x.decide(), "void00");
        due("a value comes again", value(x, 0, 3, 6) + holds(x) + x.decide(), "void11");
        due("values stay behind read()", read(x, "a=1/2&b=0") + holds(x), "-11");
        x.clear();
        x.not();
        x.not();
        x.frees();
        due("values stay behind others", holds(x), 1);
    }

    /** Promise 8: whether the formula is true with the values, 1 or 0. */
    private static void holding() {
        String[] relations = {"<", "<=", "=", "!=", ">", ">="};
        String[] results = {"110100", "011001", "000111"};
        for (int k = 0; k < relations.length; k++) {
            String due = "";
            String got = "";
            for (int above = 0; above < 3; above++) {
                LinearTruths x = of("9a" + relations[k] + "1");
                x.value(0, above, 9);
                due += results[above].charAt(k);
                got += holds(x);
            }
            due("holds() of " + relations[k], got, due);
        }
        LinearTruths x = of("a+b+c+d=1/2+1/3+1/7+1/9&e+f+g+h=1/5+1/8-99+99/4");
        int[][] values = {{1, 2}, {1, 3}, {1, 7}, {1, 9}, {1, 5}, {1, 8}, {-99, 1}, {99, 4}};
        for (int v = 0; v < 8; v++) x.value(v, values[v][0], values[v][1]);
        due("holds() of eight fractions", holds(x) + x.decide(), "11");
        x.value(3, 1, 8);
        due("holds() of eight others", holds(x) + x.decide(), "00");
        due("the formula stays", x.told(0), 3);
        String most = spelled(MOST, "a") + "+" + spelled(MOST - 1, "b") + "<" + spelled(MOST, "");
        LinearTruths y = of(most);
        y.value(0, 99, 1);
        y.value(1, -99, 1);
        due("holds() of the greatest numbers", holds(y), 1);
        y.value(1, -98, 1);
        due("holds() of more", holds(y), 0);
        y.value(0, 99, 9);
        y.value(1, -99, 9);
        due("holds() of ninths", holds(y), 1);
    }

    /** Promise 8: IllegalStateException: it has E or A. */
    private static void holdsNot() {
        String[] texts = {"Ea.a<0", "Aa.a<0", "Ea.a<b&c<0", "c<0&Ea.a<b", "T&(c<0|(d<0&(e<0|Ah.h<e)))", "Ea.Ab.a<b", "!Ea.a<0"};
        for (String text : texts) {
            LinearTruths x = of(text);
            String before = written(x) + shape(x);
            due("holds() of " + text, holds(x), "IllegalStateException");
            due("behind holds() of " + text, written(x) + shape(x), before);
            x.not();
            due("holds() of not " + text, holds(x), "IllegalStateException");
            x.frees();
            due("holds() of it freed", holds(x).length(), 1);
        }
        for (String text : new String[] {"Ea.T", "Ea.b=0", "T|Ea.a<0", "Ea.a<0|T", "Aa.(a<0|T)"}) {
            due("holds() of " + text, holds(of(text)), 1);
        }
        due("holds() of what has lost its E", holds(of("F&Ea.a<0")) + holds(of("Ea.(a<0&F)")), "00");
    }

    /** Promise 9: the values stand in place of what is FREE, one VARIABLE after the other, a first. */
    private static void deciding() {
        LinearTruths x = of("a=1&Ea.(a=2&Eb.b=a+c)&b=3");
        int[][] values = {{1, 1}, {3, 1}, {5, 1}};
        for (int v = 0; v < 3; v++) x.value(v, values[v][0], values[v][1]);
        String before = written(x) + shape(x) + x.free();
        due("decide()", x.decide() + " " + effort(x), "1 4 2");
        due("decide(): it stays", written(x) + shape(x) + x.free() + x.clear(), before + 25);
        x.value(0, 2, 1);
        due("decide() of another a", x.decide() + " " + effort(x), "0 0 0");
        LinearTruths y = of("Ea.(a>=c&a<=0)&a<=0");
        y.value(0, -1, 1);
        due("decide(): bound before it is FREE", y.decide() + " " + effort(y), "1 2 1");
        y.value(2, 1, 1);
        due("decide(): bound before it is FREE, F", y.decide() + " " + effort(y), "0 2 1");
        y.value(0, 1, 1);
        due("decide(): F where it is FREE", y.decide() + " " + effort(y), "0 0 0");
        due("decide() of T and F", of("T").decide() + " " + of("F").decide(), "1 0");
        due("decide() leaves an E out", decided("Ea.(a<b&b<0|c=0)", 0), "1 0 0");
        due("decide() leaves an A out", decided("Aa.(a<b&b<0|c=0)", 0), "1 0 0");
        due("decide() leaves no E out", decided("Ea.(a<b&b=0|c=0)", 1), "1 1 1");
        due("decide() of two alike", decided("Ea.(a>=1&a<=c)|Ea.(a>=1&a<=1)", 1), "1 2 1");
        due("decide() of two that are not alike", decided("Ea.(a>=1&a<=c)|Ea.(a>=1&a<=1)", 2), "1 4 2");
        due("decide() of AND with F", decided("c=0&Ea.(a>=1&a<=1)", 1), "0 0 0");
        due("decide() of OR with T", decided("c=1|Ea.(a>=1&a<=1)", 1), "1 0 0");
    }

    /** decide() with a value of c, then told(4) and told(5). */
    private static String decided(String text, int above) {
        LinearTruths x = of(text);
        x.value(2, above, 1);
        return x.decide() + " " + effort(x);
    }

    /** decide(), and holds() where that is no E or A, with a value of the VARIABLE. */
    private static void valued(String text, int variable, int above, int below, String due) {
        LinearTruths x = of(text);
        x.value(variable, above, below);
        due("decide(), holds() of " + text + " with " + above + "/" + below, x.decide() + " " + holds(x), due);
    }

    /** Promise 9: GREAT: a number is with the values. */
    private static void greatValues() {
        String even = spelled(20_000_000, "a") + "<" + spelled(1, "b");
        valued(even, 0, 50, 1, "0 0");
        valued(even, 0, -50, 1, "1 1");
        valued(even, 0, 51, 1, "-2 0");
        valued(even, 0, -51, 1, "-2 1");
        String odd = spelled(10_989_011, "a") + "<" + spelled(1, "b");
        valued(odd, 0, 90, 1, "0 0");
        valued(odd, 0, -90, 1, "1 1");
        valued(odd, 0, 91, 1, "-2 0");
        valued(odd, 0, -91, 1, "-2 1");
        String below = spelled(125_000_000, "b") + "<=" + spelled(1, "a");
        valued(below, 0, 1, 8, "1 1");
        valued(below, 0, 1, 9, "-2 1");
        valued(spelled(142_857_143, "b") + "<=" + spelled(1, "a"), 0, 1, 7, "-2 1");
        valued(spelled(142_857_143, "b") + "<=" + spelled(1, "a"), 0, -1, 6, "0 0");
        String last = spelled(10_989_011, "h") + "<" + spelled(1, "b");
        valued(last, 7, 91, 1, "0 0");
        valued(last, 7, -91, 1, "1 1");
        valued("F|" + odd + "&b<0", 0, 91, 1, "-2 0");
        valued("b<0|b=0|" + odd, 0, 91, 1, "-2 1");
        LinearTruths x = of("b<0&" + odd.replace('a', 'c').replace('b', 'd'));
        x.value(2, 91, 1);
        due("decide(): GREAT beside what was F before", x.decide(), 0);
        x.value(1, -1, 1);
        due("decide(): GREAT beside what was T before", x.decide(), -2);
        due("decide(): GREAT, it stays", shape(x) + " " + x.free() + " " + holds(x), "3 2 0 2 14 0");
    }

    /** Promise 9: GREAT: it can't be FREED. */
    private static void greatDecides() {
        String closed = "Ec.Eb." + between(LEFT, RIGHT, "c");
        due("decide(): it can't be FREED", decided("h<0|" + closed, 0), "-2 2 0");
        due("decide(): it need not be FREED", decided("h=0|" + closed, 0), "1 0 0");
        LinearTruths x = of(thick(8, 19));
        due("frees() of what is GREAT", x.frees(), -2);
        due("decide() of what is GREAT with no values", x.decide() + " " + effort(x), "0 2 1");
        due("decide(): 401 NODES", of("Eb.Ec.Ed.Ee.Ef.Eg." + thick(8, 19)).decide(), -2);
    }

    public static void main(String[] args) {
        without();
        notInIt();
        points();
        pointsOnce();
        minusInfinity();
        plainPoint();
        littleMore();
        tillT();
        forAll();
        greatNumbers();
        noGreatNumbers();
        greatJoints();
        greatOrs();
        lastTime();
        values();
        valuesAgain();
        holding();
        holdsNot();
        deciding();
        greatValues();
        greatDecides();
        end("free edges");
    }
}
