import java.util.function.ToLongFunction;

/** Part 4 of the Terms, Promises 12 to 14, and what is said of all calls: what is WRITTEN, the 512th call, calls that throw. */
public final class OutEdges extends Check {
    private static final long MOST = 1_000_000_000;

    /** Freed and WRITTEN these have 11,999, 12,000, 12,001 and 12,002 bytes. */
    private static final String BYTES_11999 = "Ea.Eb.(88a-74b-111c-78d-90e-82f+93g+95h<1&74a+95b+106c+101d+90e-96f-82g-109h>1&94a+100b+73c-83d-98e+88f"
            + "+97g-78h>1&82a+105b-106c+111d-104e+83f+117g+116h<1&110a+112b-81c-77d+83e+85f-84g+100h>1&87a-86b-109c+100d+106e+77f"
            + "+100g+112h>1)";
    private static final String BYTES_12000 = "Ea.Eb.(109a+80b+114c+82d-83e-105f-70g-91h>1&77a-96b-85c+97d-77e-112f-80g-75h<1&107a-104b+93c-108d+78e"
            + "+74f-113g-100h>1&77a-86b-88c-88d-82e-108f-102g-82h<1&81a+82b+111c-71d+86e+108f-99g-99h>1&111a+89b+113c-85d+109e-97f"
            + "-79g+109h<1)";
    private static final String BYTES_12001 = "Ea.Eb.(96a-76b+97c+72d-110e-105f+97g+118h>1&98a+96b+117c-114d+112e+82f+71g+114h<1&75a-106b+79c+89d+89e"
            + "-95f-95g+104h<1&112a-112b+116c+92d-115e+109f+93g+96h<1&101a+108b-108c+102d-81e+84f+113g+95h>1&119a+92b-82c+79d-93e"
            + "-105f-114g-115h>1)";
    private static final String BYTES_12002 = "Ea.Eb.(101a+73b-95c-99d+96e-99f-104g-118h>1&88a+110b+100c+113d+107e+93f+97g-89h>1&103a+75b-78c-90d"
            + "-105e-110f+99g+98h>1&95a+92b-95c-106d-117e-75f+109g+77h<1&75a-97b-112c+96d-70e+83f+95g-108h<1&70a+105b-91c+111d+95e"
            + "+87f-84g-103h<1)";

    /** WRITTEN: T, F, ATOMS, (p&q), (p|q), Ex.p and Ax.p. */
    private static void forms() {
        String[] forms = {"T", "F", "a<0", "-a<0", "2a-1<0", "-2a+1<0", "a+1=0", "a-1!=0", "a+b<=0", "a-b<=0", "-a-b-1<0", "a+10h=0",
            "a-10h!=0", "10a-9h+7<0", "a+b+c+d+e+f+g+h+1<0", "-a-b-c-d-e-f-g-h-1<=0", "2a-2b+3=0", "b<0", "-h<=0", "1009a-1010<0",
            "(a<0&b<0)", "(a<0|b<0)", "((a<0&b<0)|(c<0&d<0))", "(a<0&(b<0|(c=0&d!=0)))", "Ea.a<0", "Aa.a<0", "Eh.(h<0&g<0)", "Ah.(h<0|g<0)",
            "(Ea.a<0&b<0)", "(b<0|Ea.a<0)", "Ea.Ab.Ec.(a-b<0&b-c<0)", "Eb.(b<0&Ab.b<0)"};
        for (String form : forms) {
            LinearTruths x = of(form);
            due("write() of " + form, x.write(), form.length());
            due("what is WRITTEN of " + form, outs(x, form.length() + 8), form + "\0".repeat(8));
        }
        for (char v = 'a'; v <= 'h'; v++) {
            reads("E" + v + "." + v + "<2", "E" + v + "." + v + "-2<0");
            reads("A" + v + ".-3" + v + "<2", "A" + v + ".-3" + v + "-2<0");
        }
        for (long number : new long[] {1, 9, 10, 99, 100, 101, 1000, 9999, 10_000, 123_456_789, 999_999_999, MOST}) {
            String first = spelled(number, "a") + "<" + spelled(1, "b") + "+" + spelled(number, "");
            String digits = number == 1 ? "" : "" + number;
            reads(first, digits + "a-b-" + number + "<0");
            reads("!" + first, "-" + digits + "a+b+" + number + "<=0");
        }
    }

    /** Promise 12: how many bytes it has, the first 12,000 of them are kept. */
    private static void kept() {
        String[] texts = {BYTES_11999, BYTES_12000, BYTES_12001, BYTES_12002};
        for (int k = 0; k < texts.length; k++) {
            LinearTruths x = of(texts[k]);
            x.frees();
            int length = 11_999 + k, kept = Math.min(length, 12_000);
            due("write() of " + length + " bytes", x.write(), length);
            due("its first bytes", outs(x, 2), "((");
            for (int i = kept - 20; i < kept + 20; i++) {
                int some = Math.max(0, Math.min(8, kept - i));
                long eight = x.out(i);
                due("bytes that are kept from " + i + " of " + length, letters(eight), some);
                due("and the same ones one later", x.out(i + 1) & -1L >>> 8, eight >>> 8);
            }
            if (length <= 12_000) due("its last byte", x.out(length - 1), (long) ')');
            due("one byte behind what is kept", x.out(12_000), 0);
            due("eight bytes around the last one kept", letters(x.out(11_993)), kept - 11_993);
            due("write() again", x.write() + " " + x.told(0), length + " " + x.frees());
            due("pass() of " + length + " bytes", x.pass(), 240);
        }
    }

    /** How many bytes, from the lowest on, are not 0; -1 if one behind these is. */
    private static int letters(long eight) {
        int count = 0;
        while (count < 8 && (eight >>> 8 * count & 255) != 0) count++;
        return count == 8 || eight >>> 8 * count == 0 ? count : -1;
    }

    /** A shorter one leaves nothing of a longer one. */
    private static void shorter() {
        LinearTruths x = of(BYTES_12001);
        x.frees();
        x.write();
        read(x, "a<0");
        due("what was WRITTEN stays behind read()", letters(x.out(11_992)), 8);
        due("write() of a short one", x.write() + outs(x, 16), "3a<0" + "\0".repeat(13));
        due("out() of the long one's bytes", x.out(3) + x.out(240) + x.out(11_992), 0);
        due("pass() of a short one", x.pass() + " " + x.clear(), "3 3");
    }

    /** Promise 13: eight bytes from byte i on, the first one the lowest; 0 for each that is none. */
    private static void outs() {
        LinearTruths x = of("a+2b<10");
        for (int i : new int[] {Integer.MIN_VALUE, -8, -1, 0, 1, 8, 11_999, 12_000, Integer.MAX_VALUE}) {
            due("out(" + i + ") before write()", x.out(i), 0);
        }
        String form = "a+2b-10<0";
        due("write()", x.write(), form.length());
        String around = "\0".repeat(20) + form + "\0".repeat(20);
        for (int i = -20; i < form.length() + 12; i++) {
            due("out(" + i + ")", x.out(i), bytes(around.substring(i + 20, i + 28)));
        }
        for (int i : new int[] {Integer.MIN_VALUE, Integer.MIN_VALUE + 1, Integer.MIN_VALUE + 7, -12_000, -256, 239, 240, 256, 11_992, 11_999,
            12_000, 65_536, Integer.MAX_VALUE - 8, Integer.MAX_VALUE - 7, Integer.MAX_VALUE - 1, Integer.MAX_VALUE}) {
            due("out(" + i + ")", x.out(i), 0);
        }
    }

    /** Promise 13: .. of what was WRITTEN last. */
    private static void lastOuts() {
        LinearTruths x = of("a<0");
        x.write();
        x.not();
        due("out() behind not()", x.out(0), bytes("a<0"));
        x.frees();
        x.clear();
        due("out() behind frees() and clear()", x.out(0), bytes("a<0"));
        read(x, "F");
        x.decide();
        x.pass();
        due("out() behind read() and pass()", x.out(0), bytes("a<0"));
        due("out() behind write()", x.write() + " " + x.out(0), "1 " + bytes("F"));
    }

    /** A formula in the form in which it is WRITTEN: 21 ATOMS, the last one as long as it must be. */
    private static String form(int length) {
        StringBuilder s = new StringBuilder("(".repeat(20)).append("a-1000<0");
        for (int k = 1; k < 20; k++) s.append('&').append((char) ('a' + k % 8)).append('-').append(1000 + k).append("<0)");
        String last = length == 239 ? "a+b+c+d+e+f+g+h-1<0" : length == 240 ? "-a+b+c+d+e+f+g+h-1<0" : "-a+b+c+d+e+f+g+h-10<0";
        return s.append('&').append(last).append(')').toString();
    }

    /** Promise 14: The first 240 bytes of what was WRITTEN last become the TEXT: how many bytes that has. */
    private static void passing() {
        LinearTruths none = of("a<0");
        due("pass() of none", none.pass() + " " + none.read() + " " + none.clear(), "0 0 0");
        due("the formula behind pass()", written(none), "a<0");
        LinearTruths one = of("T");
        one.write();
        text(one, "a<0&b<0");
        due("pass() of one byte", one.pass() + " " + one.read() + " " + one.clear(), "1 -1 1");
        due("pass() again", one.pass() + " " + one.pass(), "1 1");
        for (int length = 239; length <= 241; length++) {
            String form = form(length);
            due("a form's bytes", form.length(), length);
            LinearTruths x = of(form.substring(1, length - 1));
            due("write() of " + length, x.write() + outs(x, length), length + form);
            x.clear();
            due("pass() of " + length, x.pass(), Math.min(length, 240));
            due("read() behind pass() of " + length, x.read(), length > 240 ? 240 : -1);
            due("write() behind pass() of " + length, written(x), form);
            due("type behind pass() of " + length, type(x, ' ', 1), length < 240 ? "240" : "UnsupportedOperationException");
            due("clear behind pass() of " + length, x.clear(), 240);
        }
        LinearTruths x = of("a<0");
        x.write();
        x.not();
        due("pass() of what was WRITTEN, not of the formula", x.pass() + " " + x.read() + written(x), "3 -1a<0");
    }

    /** An object is used for at most 512 calls: the last one of them answers as the first one. */
    private static void lastCall() {
        String text = "Ea.(a>b&a<c)";
        last("type", text, x -> x.type(bytes("|T"), 2), text.length() + 2);
        last("clear", text, x -> x.clear(), text.length());
        last("read", text, x -> x.read(), -1);
        last("read of a fault", "Ea.", x -> x.read(), 3);
        last("free", text, x -> x.free(), 6);
        last("frees", text, x -> x.frees(), 1);
        last("value", text, x -> value(x, 0, 1, 1).length(), 4);
        last("holds", "a<=0", x -> x.holds(), 1);
        last("decide", text, x -> x.decide(), 0);
        last("not", text, x -> x.not(), 4);
        for (int what = 0; what <= 5; what++) {
            int tell = what;
            last("told", text, x -> x.told(tell), new int[] {4, 2, 1, 3, 2, 1}[what]);
        }
        last("write", text, x -> x.write(), 17);
        last("out", text, x -> x.out(0), bytes("Ea.(-a+b"));
        last("pass", text, x -> x.pass(), 17);
        last("a refused type", text, x -> type(x, 0, 9).length(), "IllegalArgumentException".length());
        last("a refused told", text, x -> told(x, 6).length(), "IllegalArgumentException".length());
        last("a refused value", text, x -> value(x, 8, 1, 1).length(), "IllegalArgumentException".length());
        last("a refused holds", text, x -> holds(x).length(), "IllegalStateException".length());
    }

    /** Calls of every kind, dear ones too, then a last one that is the 512th. */
    private static void last(String name, String text, ToLongFunction<LinearTruths> call, long due) {
        LinearTruths x = new LinearTruths();
        int calls = typings(BYTES_12000) + 2 + typings(text) + 4;
        read(x, BYTES_12000);
        for (; calls + 5 <= 511; calls += 5) {
            x.decide();
            x.not();
            x.write();
            x.told(3);
            x.free();
        }
        for (; calls < 511; calls++) x.out(calls);
        read(x, text);
        x.write();
        x.decide();
        due("the 512th call: " + name, call.applyAsLong(x), due);
    }

    /** How many calls of type() a text takes. */
    private static int typings(String text) {
        return (text.length() + 7) / 8;
    }

    private static void refuse(LinearTruths x) {
        int[][] values = {{-1, 1, 1}, {8, 1, 1}, {0, -100, 1}, {0, 100, 1}, {0, 1, 0}, {0, 1, 10}};
        for (int[] one : values) due("value", value(x, one[0], one[1], one[2]), "IllegalArgumentException");
        for (int n : new int[] {-1, 9}) due("type", type(x, bytes("&F"), n), "IllegalArgumentException");
        for (int what : new int[] {-1, 6}) due("told", told(x, what), "IllegalArgumentException");
        due("holds", holds(x), "IllegalStateException");
    }

    private static String state(LinearTruths x) {
        String state = outs(x, 40) + shape(x) + " " + effort(x) + " " + x.free() + " " + x.decide() + " " + effort(x);
        state += written(x) + type(x, 0, 0) + " " + x.read() + written(x) + x.decide() + " " + x.frees() + written(x) + holds(x);
        return state + x.pass() + " " + x.clear();
    }

    private static LinearTruths prepared(String text, boolean refusing) {
        LinearTruths x = of("Ea.(a>=b&a<=c)");
        x.value(0, 3, 7);
        x.value(2, -1, 9);
        x.frees();
        x.write();
        read(x, "Ea.(2a>=b&3a<=c)");
        text(x, text);
        if (refusing) refuse(x);
        return x;
    }

    /** A call that throws changes nothing; of several exceptions the one named first is thrown. */
    private static void throwing() {
        for (String text : new String[] {"", "a=3/7", "a=3/7&", "Ea.a<c", " ".repeat(233) + "a=3/7"}) {
            due("what throws changes nothing", state(prepared(text, true)), state(prepared(text, false)));
        }
        LinearTruths x = prepared(" ".repeat(240), false), y = prepared(" ".repeat(240), true);
        for (int n = 1; n <= 8; n++) due("type of " + n + " over 240", type(x, bytes("&F"), n), "UnsupportedOperationException");
        for (int n : new int[] {-1, 9, 240, Integer.MAX_VALUE}) {
            due("type of " + n + ": n goes first", type(x, bytes("&F"), n), "IllegalArgumentException");
        }
        due("what throws changes nothing", state(x), state(y));
    }

    public static void main(String[] args) {
        forms();
        kept();
        shorter();
        outs();
        lastOuts();
        passing();
        lastCall();
        throwing();
        end("out edges");
    }
}
