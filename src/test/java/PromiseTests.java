import java.lang.reflect.Constructor;
import java.lang.reflect.Field;
import java.lang.reflect.Method;
import java.lang.reflect.Modifier;
import java.util.Arrays;
import java.util.Set;
import java.util.TreeSet;

/** Each promise of the document by its own examples: ordinary inputs, edges, wrong inputs. */
public final class PromiseTests extends Check {
    private static void face() {
        Set<String> names = new TreeSet<>();
        for (Method m : LinearTruths.class.getDeclaredMethods()) {
            if (!Modifier.isPrivate(m.getModifiers()) && !m.isSynthetic()) {
                names.add(Modifier.toString(m.getModifiers()) + " " + m.getReturnType() + " " + m.getName()
                        + Arrays.toString(m.getParameterTypes()));
            }
        }
        due("the methods", names, new TreeSet<>(Set.of("public int type[long, int]", "public int clear[]", "public int read[]",
                "public int free[]", "public int frees[]", "public void value[int, int, int]", "public int holds[]",
                "public int decide[]", "public int not[]", "public int told[int]", "public int write[]", "public long out[int]",
                "public int pass[]")));
        Set<String> fields = new TreeSet<>();
        for (Field f : LinearTruths.class.getDeclaredFields()) {
            if (!Modifier.isPrivate(f.getModifiers())) fields.add(f.toString());
        }
        due("the constants", fields, new TreeSet<>(Set.of("public static final int LinearTruths.NONE",
                "public static final int LinearTruths.GREAT")));
        Constructor<?>[] constructors = LinearTruths.class.getDeclaredConstructors();
        due("the constructors", Arrays.toString(constructors), "[public LinearTruths()]");
        due("final", Modifier.toString(LinearTruths.class.getModifiers()), "public final");
        due("NONE and GREAT", LinearTruths.NONE + " " + LinearTruths.GREAT, "-1 -2");
    }

    private static void newObject() {
        LinearTruths x = new LinearTruths();
        due("new: out(0)", x.out(0), 0L);
        due("new: pass()", x.pass(), 0);
        due("new: clear()", x.clear(), 0);
        due("new: formula", written(x), "T");
        due("new: told", x.told(0) + " " + x.told(1) + " " + x.told(2) + " " + x.told(3) + " " + x.told(4) + " " + x.told(5),
                "1 0 0 1 0 0");
        due("new: free()", x.free(), 0);
        text(x, "a=0&b=0&c=0&d=0&e=0&f=0&g=0&h=0");
        x.read();
        due("new: values", holds(x), "1");
    }

    private static void typing() {
        LinearTruths x = new LinearTruths();
        due("type", type(x, 0x7fffffffff303c61L, 3), "3");
        due("type of a<0 and no more", x.read() + written(x), "-1a<0");
        due("type of none", type(x, -1L, 0), "3");
        due("type n = 9", type(x, 0, 9), "IllegalArgumentException");
        due("type n = -1", type(x, 0, -1), "IllegalArgumentException");
        due("type n = min", type(x, 0, Integer.MIN_VALUE), "IllegalArgumentException");
        due("type n = max", type(x, 0, Integer.MAX_VALUE), "IllegalArgumentException");
        due("clear", x.clear(), 3);
        due("clear again", x.clear(), 0);
        for (int k = 1; k <= 29; k++) due("type eight", type(x, 0x2020202020202020L, 8), "" + 8 * k);
        due("type seven", type(x, 0x20202020202020L, 7), "239");
        due("type over", type(x, 0x5454L, 2), "UnsupportedOperationException");
        due("type wrong and over", type(x, 0, 9), "IllegalArgumentException");
        due("type the last", type(x, 'F', 1), "240");
        due("type one more", type(x, 'T', 1), "UnsupportedOperationException");
        due("type none more", type(x, 'T', 0), "240");
        due("read of 240 bytes", x.read() + written(x), "-1F");
        due("clear of 240", x.clear(), 240);
        due("read of none", x.read(), 0);
        LinearTruths y = new LinearTruths();
        due("type high bytes", type(y, 0xffL << 8 | 'T', 2), "2");
        due("read of a high byte", y.read(), 1);
    }

    private static void reading() {
        reads("T", "T");
        reads("  F  ", "F");
        reads("a<b", "a-b<0");
        reads("a>b", "-a+b<0");
        reads("a<=b", "a-b<=0");
        reads("a>=b", "-a+b<=0");
        reads("b=a", "a-b=0");
        reads("b!=a", "a-b!=0");
        reads("0=1-b", "b-1=0");
        reads("2a+4b<6c", "a+2b-3c<0");
        reads("6b!=4h+10", "3b-2h-5!=0");
        reads("1/2a - 1/3 b >= 1/12", "-6a+4b+1<=0");
        reads("9999a<0001", "9999a-1<0");
        reads("a+a-3a+h<0/7", "-a+h<0");
        reads("a-a<1", "T");
        reads("0a>=1", "F");
        reads("a=a", "T");
        reads("a!=a", "F");
        reads("a<=a", "T");
        reads("a<a", "F");
        reads("-a+b-c+d-e+f-g+h-1<0", "-a+b-c+d-e+f-g+h-1<0");
        reads("a<b&c<d&e<f", "((a-b<0&c-d<0)&e-f<0)");
        reads("a<b|c<d|e<f", "((a-b<0|c-d<0)|e-f<0)");
        reads("a<0|b<0&c<0|d<0", "((a<0|(b<0&c<0))|d<0)");
        reads("a<0&(b<0|c<0)&d<0", "((a<0&(b<0|c<0))&d<0)");
        reads("a<0->b<0->c<0", "(-a<=0|(-b<=0|c<0))");
        reads("(a<0->b<0)->c<0", "((a<0&-b<=0)|c<0)");
        reads("a<0|b<0->c<0&d<0", "((-a<=0&-b<=0)|(c<0&d<0))");
        reads("a<b->c<d-e->f=0", "(-a+b<=0|(-c+d-e<=0|f=0))");
        reads("!a<0&b<0", "(-a<=0&b<0)");
        reads("!!!a<=b", "-a+b<0");
        reads("!(a=0&b!=0|T&c<1)", "((a!=0|b=0)&-c+1<=0)");
        reads("!Ea.(a<b&Ac.(c>a|d=0))", "Aa.(-a+b<=0|Ec.(-a+c<=0&d!=0))");
        reads("Ea.a<b&a<c", "(Ea.a-b<0&a-c<0)");
        reads("Ea.b<0", "b<0");
        reads("Aa.Ea.a<b", "Ea.a-b<0");
        reads("Ea.(a-a<b)", "-b<0");
        reads("Ea.(b<0|Aa.a<b)", "(b<0|Aa.a-b<0)");
        reads("Ea.(a<0|T)", "T");
        reads("a<0&F", "F");
        reads("F&a<0", "F");
        reads("T&a<0", "a<0");
        reads("a<0&T", "a<0");
        reads("a<0|F", "a<0");
        reads("F|a<0", "a<0");
        reads("T|a<0", "T");
        reads("a<0|T", "T");
        reads("(a<0&b<0)|2a<0&0>b", "(a<0&b<0)");
        reads("(a<0&b<0)|(b<0&a<0)", "((a<0&b<0)|(b<0&a<0))");
        reads("a<0&b<0&a<0", "((a<0&b<0)&a<0)");
        reads("a<0->a>=0", "-a<=0");
        reads("Ea.a<b|Ea.a<b", "Ea.a-b<0");
        reads("Ea.a<b|Aa.a<b", "(Ea.a-b<0|Aa.a-b<0)");
        reads("Ea.a<b|Ec.c<b", "(Ea.a-b<0|Ec.-b+c<0)");
        reads("!".repeat(20) + "a<0", "a<0");
        reads("(".repeat(20) + "a<0" + ")".repeat(20) + "&!" + "(".repeat(19) + "b<0" + ")".repeat(19), "(a<0&-b<=0)");
        reads("E a . A h . ( a < h )", "Ea.Ah.a-h<0");
        faults();
        greatReads();
    }

    private static void faults() {
        refused("", 0);
        refused("   ", 3);
        refused("i<0", 0);
        refused("Ei.T", 1);
        refused("Ea", 2);
        refused("Ea T", 3);
        refused("a", 1);
        refused("a<", 2);
        refused("a! =0", 2);
        refused("a< =0", 3);
        refused("a<b<c", 3);
        refused("a->b<c", 2);
        refused("T-", 2);
        refused("T- >T", 2);
        refused("a<b- >c", 5);
        refused("T&", 2);
        refused("T|&T", 2);
        refused("(T", 2);
        refused("T)", 1);
        refused("()", 1);
        refused("12345<a", 4);
        refused("1 /2<a", 2);
        refused("1/ 2<a", 2);
        refused("1/0<a", 2);
        refused("1/13<a", 3);
        refused("1/20<a", 3);
        refused("1/<a", 2);
        refused("1 2<a", 2);
        refused("a2<0", 1);
        refused("a++b<0", 2);
        refused("--a<0", 1);
        refused("t", 0);
        refused("!".repeat(21) + "T", 20);
        refused("!(!(!(!(!(!(!(!(!(!(Ea.T", 20);
        refused("(".repeat(20) + "T&!T", 22);
        refused("\u00e1<0", 0);
        refused("T\u0000", 1);
        refused("T\t", 1);
    }

    private static void greatReads() {
        String full = "9999a+9999a+9999a+6076a+4/7a+5/9a+10/11a+1/8b+1/5c";
        reads(full + "<0", "1000000000a+3465b+5544c<0");
        reads("0<" + full, "-1000000000a-3465b-5544c<0");
        refused(full + "+1/8a<0", -2);
        refused("0<=" + full + "+1/8a", -2);
        refused("F&" + full + "+1/8a<0", -2);
        refused(full + "+1/8a<0&", full.length() + 8);
        reads("9999+9999+9999+9999+9999+1/7+1/8+1/9+1/10+1/11<0", "F");
        reads("9999a+9999a+9999a+9999a+9999a<9999", "5a-1<0");
    }

    private static void freeOnes() {
        due("free", of("a<b&Ec.(c<d|Ad.d<e)").free(), 1 + 2 + 8 + 16);
        due("free of the closed", of("Ah.h<0").free(), 0);
        due("free and bound", of("a<0&Ea.a<h").free(), 1 + 128);
        due("free of all", of("a+b+c+d+e+f+g+h<0").free(), 255);
        LinearTruths x = of("Ea.(a<b&a>b+c)");
        due("free before frees", x.free(), 6);
        x.frees();
        due("free behind frees", x.free() + written(x), "4c<0");
        x.not();
        due("free behind not", x.free(), 4);
    }

    private static void freeing() {
        freed("T", "T", 0, 0);
        freed("a<b&c=0", "(a-b<0&c=0)", 0, 0);
        freed("Ea.(a>b&a<c)", "b-c<0", 2, 1);
        freed("Ea.(a>=b&a<=c)", "b-c<=0", 2, 1);
        freed("Ea.(a>=b&a<c)", "b-c<0", 2, 1);
        freed("Ea.(a=b&a<c)", "b-c<0", 2, 1);
        freed("Ea.a!=b", "T", 1, 1);
        freed("Ea.(a!=b&a>=b&a<=c)", "b-c<0", 3, 1);
        freed("Ea.(a>=b&a!=b)", "T", 3, 1);
        freed("Ea.(a!=b&a>=c)", "(-b+c<=0|b-c!=0)", 3, 1);
        freed("Aa.(a<=b|a>c)", "-b+c<=0", 2, 1);
        freed("Aa.a=b", "F", 1, 1);
        freed("Aa.Eb.b>a", "T", 2, 1);
        freed("Ea.Ab.a<=b", "F", 1, 1);
        freed("Ea.(2a>b&4a>2b&3a<c)", "3b-2c<0", 2, 1);
        freed("Ea.(a>b&a>=b&a<c)", "b-c<0", 3, 1);
        freed("Ea.(a>b&a>c)", "(-b+c<=0|b-c<=0)", 3, 1);
        freed("Ea.(2a>=1&a<=b)", "-2b+1<=0", 2, 1);
        freed("Ea.(a>=1&a<=0|a=b&c<0)", "((b-1=0&c<0)|((-b+1<=0&b<=0)|c<0))", 3, 1);
        freed("Ea.(a>=1&a<=1)", "T", 2, 1);
        freed("Ea.(a>=1&a<=0)", "F", 2, 1);
        freed("Ea.(a>b&d<0&a>c)", "((d<0&-b+c<=0)|(b-c<=0&d<0))", 3, 1);
        freed("Ea.(a>b&a<c)&Ed.(d>b&d<c)", "b-c<0", 4, 2);
        freed("Ea.(a>b&a<c)&F", "F", 0, 0);
        freed("Ea.Eb.Ec.(a+b+c=1&a>b&b>c&c>0)", "T", 7, 3);
        freed("Ea.(b<a&Ea.(a>c&a<b))", "-b+c<0", 4, 2);
        freedWithLimits();
    }

    /** 8 borders below and 18 above: 8 TEST POINTS with 25 ATOMS each, 200 ATOMS and 399 NODES. */
    private static String most() {
        StringBuilder s = new StringBuilder("Ea.(T");
        for (int k = 0; k < 8; k++) s.append("&a>").append(k < 6 ? "" : "2").append((char) ('b' + k % 6));
        for (int k = 0; k < 18; k++) s.append("&a<").append(3 + k / 6).append((char) ('b' + k % 6));
        return s.append(')').toString();
    }

    private static void freedWithLimits() {
        LinearTruths x = of(most());
        due("399 NODES", x.frees(), 399);
        due("399 NODES: told", x.told(0) + " " + x.told(1) + " " + x.told(2) + " " + x.told(3) + " " + x.told(4) + " " + x.told(5),
                "399 200 0 32 9 1");
        due("399 NODES again", x.frees(), 399);
        due("399 NODES again: told", x.told(4) + " " + x.told(5), "0 0");
        LinearTruths y = of(most() + "&h<0");
        String before = written(y);
        due("401 NODES of an AND", y.frees(), -2);
        due("401 NODES: told", y.told(4) + " " + y.told(5), "9 1");
        due("401 NODES: the formula stays", written(y), before);
        due("401 NODES: decide", y.decide(), 0);
        due("399 NODES and F", of(most() + "&h<h").frees(), 1);
        due("399 NODES and what is F when FREED", of(most() + "&Eh.(h>0&h<0)").frees(), 1);
        LinearTruths z = of(most().replace(")", "&a<5h)"));
        due("an OR so far of more than 400 NODES", z.frees(), -2);
        due("an OR so far: told", z.told(4) + " " + z.told(5), "9 0");
        due("more than 400 NODES before T", of(most().replace(")", "&a<5h|a=h)")).frees(), -2);
        String thick = "Ea.Eb.Ec.(c>e&c<b&b>a&c+a>b&c>h)";
        String chain = thick + "|(" + thick.replace('c', 'd') + "|(" + thick.replace('c', 'f') + "|(" + thick.replace('c', 'g')
                + "|(" + thick.replace('a', 'd') + "|(" + thick.replace('a', 'f') + ")))))";
        LinearTruths w = of(chain);
        LinearTruths v = of(thick);
        due("many thick ones", w.frees() + " " + v.frees(), "383 383");
        due("many thick ones: alike", written(w), written(v));
        due("many thick ones: told", w.told(4) + " " + w.told(5), 6 * v.told(4) + " 18");
        String near = "Ea.(a>9999b+9999b+9999b+9999b+4b&9999a+9999a+5002a";
        freed(near + "<c)", "1000000000b-c<0", 2, 1);
        LinearTruths u = of(near + "+a<c)");
        due("GREAT by a number", u.frees(), -2);
        due("GREAT by a number: told", u.told(4) + " " + u.told(5), "2 0");
        due("GREAT by a number: the formula stays", written(u), "Ea.(-a+40000b<0&25001a-c<0)");
        freed(near + "+a<8c)", "125005000b-c<0", 2, 1);
        freed(near + "+a<c|a<h)", "T", 1, 1);
        freed("Ea.(b<0&" + near.substring(4) + "+a<c&F)", "F", 0, 0);
    }

    private static void valuesAndHolds() {
        LinearTruths x = of("a=1/2&h=-99/9&b<=c");
        due("holds at first", holds(x), "0");
        due("value", value(x, 0, 1, 2) + value(x, 7, -99, 9), "voidvoid");
        due("holds", holds(x), "1");
        due("value 2/4", value(x, 0, 2, 4) + holds(x), "void1");
        due("value b", value(x, 1, 99, 9) + holds(x), "void0");
        due("value c", value(x, 2, 11, 1) + holds(x), "void1");
        due("value c less", value(x, 2, 98, 9) + holds(x), "void0");
        due("value -1", value(x, -1, 0, 1), "IllegalArgumentException");
        due("value 8", value(x, 8, 0, 1), "IllegalArgumentException");
        due("value max", value(x, Integer.MAX_VALUE, 0, 1), "IllegalArgumentException");
        due("value above", value(x, 2, 100, 1), "IllegalArgumentException");
        due("value above -", value(x, 2, -100, 1), "IllegalArgumentException");
        due("value below", value(x, 2, 99, 0), "IllegalArgumentException");
        due("value below -", value(x, 2, 99, -1), "IllegalArgumentException");
        due("value below 10", value(x, 2, 99, 10), "IllegalArgumentException");
        due("holds as before", holds(x), "0");
        due("holds of E", holds(of("T&Ea.a<0")), "IllegalStateException");
        due("holds of A", holds(of("b<0|Aa.a<0")), "IllegalStateException");
        due("holds of what lost its E", holds(of("Ea.b<=0")), "1");
        due("holds of <", holds(of("a<0")) + holds(of("a<=0")) + holds(of("a=0")) + holds(of("a!=0")) + holds(of("a<1|F&a>0")), "01101");
        due("holds of T and F", holds(of("T")) + holds(of("F")), "10");
        String[] two = {"a=0", "a<0"};
        String ands = "", ors = "";
        for (String left : two) {
            for (String right : two) {
                ands += holds(of("(" + left + "&b=0)&(" + right + "|b<0)"));
                ors += holds(of("(" + left + "&b=0)|(" + right + "|b<0)"));
            }
        }
        due("holds of AND and OR", ands + " " + ors, "1000 1110");
        LinearTruths y = of("9999a+9999a+9999a+6076a+4/7a+5/9a+10/11a+1/8b+1/5c<0");
        for (int v = 0; v < 8; v++) y.value(v, 99, 1);
        due("holds with large numbers", holds(y), "0");
        for (int v = 0; v < 8; v++) y.value(v, -99, 1);
        due("holds with large numbers below 0", holds(y), "1");
        due("holds: the formula stays", written(y), "1000000000a+3465b+5544c<0");
    }

    private static void deciding() {
        LinearTruths x = of("Ea.(a>b&a<c)");
        due("decide b = c", x.decide(), 0);
        x.value(2, 1, 9);
        due("decide b < c", x.decide(), 1);
        due("decide: told", x.told(4) + " " + x.told(5), "2 1");
        due("decide: the formula stays", written(x), "Ea.(-a+b<0&a-c<0)");
        LinearTruths y = of("a=1&Ea.a=2&Ea.(a<b&Ab.(b>a|b<3))");
        y.value(0, 1, 1);
        y.value(1, 4, 1);
        due("decide leaves what is bound", y.decide(), 1);
        due("decide leaves what is bound: told", y.told(4) + " " + y.told(5), "5 3");
        y.value(0, 2, 1);
        due("decide of another value", y.decide(), 0);
        due("decide of another value: told", y.told(4) + " " + y.told(5), "0 0");
        due("decide drops an E, T", decided("Ea.(a<b&b<0|c=0)", 0), "1 0 0");
        due("decide drops an E, F", decided("Ea.(a<b&b<0|c=0)", 1), "0 0 0");
        due("decide keeps an E", decided("Ea.(a<b&b=0|c=0)", 1), "1 1 1");
        String wide = "+1/7b+1/8c+1/9d+1/10e+1/11f<0";
        LinearTruths z = of("9999a" + wide);
        due("decide with a = 0", z.decide(), 0);
        z.value(0, 3, 1);
        due("decide with a = 3", z.decide(), 0);
        z.value(0, -3, 1);
        due("decide with a = -3", z.decide(), 1);
        z.value(0, -4, 1);
        due("decide: GREAT with the values", z.decide(), -2);
        due("holds where decide is GREAT", holds(z), "1");
        LinearTruths w = of("9999h" + wide);
        w.value(7, -99, 1);
        due("decide: the great one comes last", w.decide(), 1);
        LinearTruths v = of("T");
        text(v, "Ea.(a>b&a<c)");
        v.read();
        v.frees();
        text(v, "9999a" + wide);
        v.read();
        v.value(0, 99, 1);
        due("decide: GREAT with the values, nothing was FREED", v.decide() + " " + v.told(4) + " " + v.told(5), "-2 2 1");
        due("decide: GREAT beside what is F", great("F&9999a" + wide + "|c=0&9999a" + wide).decide(), -2);
        LinearTruths u = of("Eb.Ac.Ea.(a>9999b+9999b+9999b+9999b+4b&9999a+9999a+5003a<c)");
        due("decide: GREAT of freeing", u.decide() + " " + u.told(4) + " " + u.told(5), "-2 2 0");
    }

    /** decide() with a value of c, then told(4) and told(5). */
    private static String decided(String text, int above) {
        LinearTruths x = of(text);
        x.value(2, above, 1);
        return x.decide() + " " + x.told(4) + " " + x.told(5);
    }

    private static LinearTruths great(String text) {
        LinearTruths x = of(text);
        x.value(0, 99, 1);
        x.value(2, 1, 1);
        return x;
    }

    private static void negating() {
        LinearTruths x = of("Ea.(a<b&(a=c|Ad.(d<=a|d!=b)))");
        String before = written(x);
        due("not", x.not(), 9);
        due("not written", written(x), "Aa.(-a+b<=0|(a-c!=0&Ed.(a-d<0&b-d=0)))");
        due("not not", x.not() + written(x), "9" + before);
        LinearTruths y = new LinearTruths();
        due("not of T", y.not() + written(y), "1F");
        due("not of F", y.not() + written(y), "1T");
    }

    private static void telling() {
        LinearTruths x = of("Ea.(a<b&b<c)|Ad.Ee.d<e|c=0");
        due("told", x.told(0) + " " + x.told(1) + " " + x.told(2) + " " + x.told(3), "10 4 3 5");
        for (int what : new int[] {-1, 6, 7, Integer.MIN_VALUE, Integer.MAX_VALUE}) {
            due("told " + what, answer(() -> x.told(what)), "IllegalArgumentException");
        }
        x.frees();
        due("told behind frees", x.told(2) + " " + x.told(4) + " " + x.told(5), "0 3 2");
        text(x, "a<0");
        x.read();
        x.not();
        due("told of the last time", x.told(4) + " " + x.told(5), "3 2");
        due("told of one deep at the left", of("a<0&b<0&c<0&(d<0&e<0)").told(3), 4);
        due("told of one deep at the right", of("a<0&(b<0|(c<0&Ad.(d<0&e<0)))").told(3), 6);
        due("told of an AND", of("a<0&(b<0&(c<0&d<0))").told(3), 4);
    }

    private static void writing() {
        LinearTruths x = of("1<a&2b-3c+1!=0");
        due("write", x.write(), 19);
        due("written", written(x), "(-a+1<0&2b-3c+1!=0)");
        due("out(0)", x.out(0), bytes("(-a+1<0&"));
        due("out(11)", x.out(11), bytes("3c+1!=0)"));
        due("out(13)", x.out(13), bytes("+1!=0)\0\0"));
        due("out(18)", x.out(18), (long) ')');
        due("out(19)", x.out(19), 0L);
        due("out(-3)", x.out(-3), bytes("\0\0\0(-a+1"));
        due("out(-7)", x.out(-7), (long) '(' << 56);
        due("out(-8)", x.out(-8), 0L);
        due("out(max)", x.out(Integer.MAX_VALUE), 0L);
        due("out(min)", x.out(Integer.MIN_VALUE), 0L);
        x.not();
        due("out is of the last writing", x.out(0), bytes("(-a+1<0&"));
        x.write();
        due("out is of the new writing", x.out(0), bytes("(a-1<=0|"));
        due("pass", x.pass(), 18);
        due("clear behind pass", x.clear(), 18);
        due("pass again", x.pass(), 18);
        due("read behind pass", x.read() + written(x), "-1(a-1<=0|2b-3c+1=0)");
        LinearTruths y = of("Ea.Eb.(76a-86b+109c-79d+109e+80f+114g+85h>1&113a-92b+89c+77d+78e+108f+112g+92h<1&87a-82b-86c+99d-89e"
                + "+91f-92g+115h<1&81a+94b+93c-112d-112e+84f-112g-88h>1&105a+103b-83c+91d+95e-108f+111g+114h>1&97a-91b+104c-113d"
                + "-80e-99f+100g-110h>1)");
        due("a long one", y.frees(), 397);
        due("a long one's bytes", y.write(), 13144);
        due("the last byte kept", y.out(11999) != 0 && y.out(11999) < 256, true);
        due("the first byte not kept", y.out(12000), 0L);
        due("the last byte written", y.out(13143), 0L);
        due("pass of a long one", y.pass(), 240);
        due("read of its first bytes, with too many open", y.read(), 20);
        due("and one byte more", type(y, 0, 1), "UnsupportedOperationException");
        due("it stays", y.told(0), 397);
        y.not();
        y.write();
        text(y, "T");
        y.read();
        y.write();
        due("a short one behind a long one", y.out(0) + " " + y.out(1) + " " + y.pass(), "84 0 1");
    }

    public static void main(String[] args) {
        face();
        newObject();
        typing();
        reading();
        freeOnes();
        freeing();
        valuesAndHolds();
        deciding();
        negating();
        telling();
        writing();
        end("promises");
    }
}
