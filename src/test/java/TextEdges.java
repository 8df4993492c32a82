/** Part 1 of the Terms and Promises 1 to 4: the edges of the TEXT, of its bytes and of its grammar. */
public final class TextEdges extends Check {
    private static final String BLANK_240 = " ".repeat(240);

    /** Promise 1: No TEXT, the formula T, values 0. */
    private static void newObject() {
        due("new: clear()", new LinearTruths().clear(), 0);
        due("new: type of none", type(new LinearTruths(), -1L, 0), 0);
        due("new: read()", new LinearTruths().read(), 0);
        LinearTruths x = new LinearTruths();
        due("new: told()", shape(x) + " " + effort(x), "1 0 0 1 0 0");
        due("new: free()", x.free(), 0);
        due("new: holds()", holds(x), 1);
        due("new: decide()", x.decide(), 1);
        due("new: frees()", x.frees(), 1);
        due("new: nothing is WRITTEN", x.out(0) + x.out(-4) + x.out(7), 0);
        due("new: write()", x.write() + " " + x.out(0), "1 " + (int) 'T');
        due("new: not()", new LinearTruths().not(), 1);
        for (char v = 'a'; v <= 'h'; v++) {
            due("new: value of " + v, holds(of(v + "=0")) + holds(of(v + "!=0")) + of(v + "=0").decide(), "101");
        }
    }

    /** Promise 2: IllegalArgumentException: n is not 0 .. 8. */
    private static void typeCount() {
        for (int n : new int[] {Integer.MIN_VALUE, -256, -8, -2, -1, 9, 10, 16, 64, 240, 264, Integer.MAX_VALUE}) {
            LinearTruths x = new LinearTruths();
            text(x, "a<b");
            due("type with n = " + n, type(x, bytes("&b<0"), n), "IllegalArgumentException");
            due("the TEXT behind n = " + n, type(x, 0, 0) + x.read() + written(x), "3-1a-b<0");
        }
    }

    /** Promise 2: The n lowest bytes of a number, the lowest first. */
    private static void typeBytes() {
        int[] faults = {0, 1, 2, 3, 4, 5, 6, -1, -1};
        for (int n = 0; n <= 8; n++) {
            LinearTruths x = new LinearTruths();
            due("type of " + n, type(x, bytes("a+b+c<12"), n), n);
            due("read() behind type of " + n, x.read(), faults[n]);
            due("the formula behind type of " + n, written(x), n == 7 ? "a+b+c-1<0" : n == 8 ? "a+b+c-12<0" : "T");
        }
        LinearTruths x = new LinearTruths();
        due("type leaves the higher bytes", type(x, -256L | 'F', 1) + x.read() + written(x), "1-1F");
        due("type comes behind", type(x, bytes("|a<"), 3) + type(x, bytes("0"), 1) + x.read() + written(x), "45-1a<0");
        LinearTruths y = new LinearTruths();
        due("type of bytes 255", type(y, -1L, 8) + y.read() + y.clear(), "808");
        due("type of bytes 0", type(y, 0L, 8) + y.read() + y.clear(), "808");
        due("type of the lowest long", type(y, Long.MIN_VALUE | bytes("T      "), 8) + y.read(), "87");
        due("type of none", type(y, bytes("T"), 0) + y.read(), "87");
    }

    /** Promise 2: UnsupportedOperationException: it would have more than 240. */
    private static void typeFull() {
        for (int n = 1; n <= 8; n++) {
            LinearTruths x = new LinearTruths();
            text(x, BLANK_240.substring(n));
            due("type of " + n + " up to 240", type(x, bytes("T       "), n) + x.read(), "240-1");
            LinearTruths y = new LinearTruths();
            text(y, BLANK_240.substring(n) + "F");
            due("type of " + n + " up to 241", type(y, bytes("&T      "), n), "UnsupportedOperationException");
            due("type of none more", type(y, 'T', 0), 241 - n);
            due("the TEXT behind a refused type", y.read() + written(y) + y.clear(), "-1F" + (241 - n));
            due("type behind clear", type(y, 'T', 1), 1);
        }
        LinearTruths x = new LinearTruths();
        text(x, BLANK_240);
        due("240 bytes", type(x, 0, 0), 240);
        due("one more", type(x, 'T', 1), "UnsupportedOperationException");
        due("eight more", type(x, 'T', 8), "UnsupportedOperationException");
        due("nine more: n goes first", type(x, 'T', 9), "IllegalArgumentException");
        due("one less: n goes first", type(x, 'T', -1), "IllegalArgumentException");
        due("read() of 240 BLANKS", x.read() + " " + x.clear(), "240 240");
    }

    /** Promise 3: The TEXT is empty: how many bytes it had. */
    private static void clearing() {
        LinearTruths x = of("a<1");
        x.value(0, 2, 1);
        x.write();
        due("clear", x.clear() + " " + x.clear(), "3 0");
        due("read() behind clear", x.read(), 0);
        due("the formula behind clear", shape(x) + " " + holds(x), "1 1 0 1 0");
        due("what was WRITTEN behind clear", outs(x, 5), "a-1<0");
        due("type behind clear", type(x, 'F', 1) + x.read() + written(x), "1-1F");
    }

    /** Promise 4: The TEXT (it stays) becomes the formula: NONE. */
    private static void readAgain() {
        LinearTruths x = of("a<0");
        due("read() twice", x.read() + written(x), "-1a<0");
        more(x, "|b<0");
        due("the formula before read()", written(x), "a<0");
        due("read() of more", x.read() + written(x), "-1(a<0|b<0)");
        more(x, ")");
        due("read() of too much", x.read() + written(x), "7(a<0|b<0)");
        due("clear behind it", x.clear(), 8);
        x.value(1, -1, 1);
        due("values stay", read(x, "b=-1") + holds(x), "-11");
    }

    private static void emptyTexts() {
        refused("", 0);
        for (int n : new int[] {1, 2, 8, 9, 239, 240}) refused(" ".repeat(n), n);
        refused(" ".repeat(239) + "(", 240);
        refused(" ".repeat(239) + ")", 239);
        refused(" ".repeat(238) + "T&", 240);
        refused("T" + " ".repeat(238) + "T", 239);
        reads(" ".repeat(239) + "F", "F");
        reads("F" + " ".repeat(239), "F");
        reads("a" + " ".repeat(119) + "<" + " ".repeat(118) + "0", "a<0");
    }

    /** BLANKS (32) stand between tokens or not. */
    private static void blanks() {
        String[] tokens = {"!", "E", "a", ".", "(", "-", "2/3", "a", "+", "b", "-", "4", "<=", "c", "->", "T", "&", "d", "!=", "0",
            "|", "A", "h", ".", "h", ">=", "1/12", "h", "&", "F", ")"};
        String formula = "Aa.(-2a+3b-3c-12<=0&d=0)";
        reads(String.join("", tokens), formula);
        reads(String.join(" ", tokens), formula);
        reads(" " + String.join("  ", tokens) + " ", formula);
        for (int letter = 0; letter < 256; letter++) {
            if (" &|".indexOf(letter) < 0) refused("T" + (char) letter + "T", letter == '-' ? 2 : 1);
        }
    }

    /** A number, <=, >=, != and -> have none inside. */
    private static void noBlanks() {
        refused("a< =b", 3);
        refused("a> =b", 3);
        refused("a! =b", 2);
        refused("a<b- >T", 5);
        refused("T- >T", 2);
        refused("1 2<a", 2);
        refused("12 /3<a", 3);
        refused("12/ 3<a", 3);
        refused("12/1 2<a", 5);
        refused("a<1 2", 4);
        refused("a<1 /2", 4);
        refused("a<1/ 2", 4);
    }

    /** VARIABLES are the letters a .. h. */
    private static void variables() {
        for (char v = 'a'; v <= 'h'; v++) {
            reads(v + "<0", v + "<0");
            reads("E" + v + ".2" + v + "<1", "E" + v + ".2" + v + "-1<0");
            due("free() of " + v, of(v + "<0").free(), 1 << (v - 'a'));
        }
        for (char v : new char[] {'i', '`', 'z', '@', 'B', 'H', 'I', 'x', 225}) {
            refused(v + "<0", 0);
            refused("a+" + v + "<0", 2);
            refused("a<" + v, 2);
            refused("E" + v + ".T", 1);
            refused("A" + v + ".T", 1);
            refused("a<1" + v, 3);
        }
    }

    private static void grammarOfFormulas() {
        for (String joint : new String[] {"&", "|", "->"}) {
            int end = joint.length();
            refused(joint + "T", joint.equals("->") ? 1 : 0);
            refused("T" + joint, 1 + end);
            refused("T" + joint + " ", 2 + end);
            refused("T" + joint + joint.charAt(0) + "T", joint.equals("->") ? 4 : 1 + end);
            refused("T" + joint + ")", 1 + end);
            refused("T" + joint + "<", 1 + end);
            refused("(T" + joint + "T", 3 + end);
        }
        refused("T-", 2);
        refused("T-T", 2);
        refused("T-a", 2);
        refused("T>T", 1);
        refused("TT", 1);
        refused("Ta", 1);
        refused("T<0", 1);
        refused("T=T", 1);
        refused("T!T", 1);
        refused("T(T)", 1);
        refused("TEa.T", 1);
        refused("T)", 1);
        refused(")", 0);
        refused("()", 1);
        refused("( )", 2);
        refused("(", 1);
        refused("(T", 2);
        refused("(T))", 3);
        refused("(T)T", 3);
        refused("(T)<0", 3);
        refused("(a)<0", 2);
        refused("(a<0", 4);
        refused("!", 1);
        refused("!!", 2);
        refused("!&", 1);
        refused("!=0", 1);
        refused("!)", 1);
        refused("E", 1);
        refused("E.", 1);
        refused("Ea", 2);
        refused("Ea ", 3);
        refused("EaT", 2);
        refused("Eab.T", 2);
        refused("EEa.T", 1);
        refused("Ea.", 3);
        refused("Ea..T", 3);
        refused("Ea.&", 3);
        refused("A1.T", 1);
        refused("Aa,T", 2);
        refused("Aa.)", 3);
        refused("t", 0);
        refused("e", 1);
    }

    private static void grammarOfAtoms() {
        refused("a", 1);
        refused("a ", 2);
        refused("a&T", 1);
        refused("a)", 1);
        refused("ab<0", 1);
        refused("a b<0", 2);
        refused("a2<0", 1);
        refused("2ab<0", 2);
        refused("2a3<0", 2);
        refused("a*b<0", 1);
        refused("a/2<0", 1);
        refused("a!b", 2);
        refused("a!", 2);
        refused("a!<b", 2);
        refused("a==b", 2);
        refused("a=<b", 2);
        refused("a=!b", 2);
        refused("a<>b", 2);
        refused("a><b", 2);
        refused("a<==b", 3);
        refused("a!==b", 3);
        refused("a<", 2);
        refused("a<=", 3);
        refused("a<T", 2);
        refused("a<(b)", 2);
        refused("a<!T", 2);
        refused("a<b<c", 3);
        refused("a<b=c", 3);
        refused("a<b!T", 3);
        refused("a<bc", 3);
        refused("a<b-", 4);
        refused("a<b->", 5);
        refused("a<b+", 4);
        refused("a<b+>", 4);
        refused("a->b<c", 2);
        refused("a->T", 2);
        refused("-", 1);
        refused("-<0", 1);
        refused("--a<0", 1);
        refused("+a<0", 0);
        refused("-+a<0", 1);
        refused("a+-b<0", 2);
        refused("a-+b<0", 2);
        refused("a--b<0", 2);
        refused("a<--b", 3);
        refused("a<+b", 2);
        refused("a<->T", 3);
        refused("<0", 0);
        refused("=", 0);
        reads("-a<-b", "-a+b<0");
        reads("- 2 a - 3 > - b", "2a-b+3<0");
        reads("a<b-c->T&d<0", "(-a+b-c<=0|d<0)");
        reads("a-b-c+d-1-2<0", "a-b-c+d-3<0");
    }

    /** NUMBER: 1 to 4 digits, perhaps / and one of 1 .. 12 (without a 0 in front). */
    private static void numbers() {
        reads("a<1", "a-1<0");
        reads("a<12", "a-12<0");
        reads("a<123", "a-123<0");
        reads("a<1234", "a-1234<0");
        reads("a<9999", "a-9999<0");
        reads("a<0", "a<0");
        reads("a<0000", "a<0");
        reads("a<0001", "a-1<0");
        reads("a<0120", "a-120<0");
        reads("0a<1", "T");
        reads("0b+a<1", "a-1<0");
        reads("0001a<0000b", "a<0");
        refused("a<12345", 6);
        refused("a<00000", 6);
        refused("a<00001", 6);
        refused("12345a<0", 4);
        refused("99990<a", 4);
        for (int below = 1; below <= 12; below++) {
            String sum = below == 1 ? "a-1<0" : below + "a-1<0";
            reads("a<1/" + below, sum);
            reads("a<1/" + below + "&T", sum);
            reads("1/" + below + "b<1", below == 1 ? "b-1<0" : "b-" + below + "<0");
            reads("1/" + below + " b<1", below == 1 ? "b-1<0" : "b-" + below + "<0");
            reads("9999/" + below + "a<9999", below == 1 ? "a-1<0" : "a-" + below + "<0");
        }
        for (int below = 13; below <= 130; below++) {
            int tens = below / 10;
            refused("a<1/" + below, tens >= 10 && tens <= 12 ? 6 : 5);
        }
        refused("a<1/0", 4);
        refused("a<1/00", 4);
        refused("a<1/01", 4);
        refused("a<1/012", 4);
        refused("a<1/", 4);
        refused("a<1/a", 4);
        refused("a<1/-2", 4);
        refused("a<1//2", 4);
        refused("a<1/2/3", 5);
        refused("a<9999/1/1", 8);
        refused("a<1234/13", 8);
        refused("/2a<0", 0);
        refused("a</2", 2);
        reads("0/7a+b<1/2", "2b-1<0");
        reads("a<4/8", "2a-1<0");
        reads("a<12/12", "a-1<0");
    }

    private static String open(String openings, String unit) {
        return openings + unit + ")".repeat((int) openings.chars().filter(c -> c == '(').count());
    }

    /** At most 20 of ! E A ( are open at a time; the 21st counts as a FAULT. */
    private static void opened() {
        String[] openings = {"!", "Ea.", "Aa.", "("};
        for (String one : openings) {
            String even = one.repeat(20);
            reads(open(even, "a<b"), one.equals("Ea.") ? "Ea.a-b<0" : one.equals("Aa.") ? "Aa.a-b<0" : "a-b<0");
            for (String next : openings) {
                refused(open(even + next, "a<b"), even.length());
                refused(even + "  " + next, even.length() + 2);
                refused(even + next.charAt(0), even.length());
                refused("T&" + even + next + "T", 2 + even.length());
            }
            reads(open(even, "a!=b"), one.equals("Ea.") ? "Ea.a-b!=0" : one.equals("Aa.") ? "Aa.a-b!=0" : "a-b!=0");
        }
        String mixed = "(!EaAb".replace("a", "a.").replace("b", "b.").repeat(5);
        reads(open(mixed, "T"), "F");
        refused(open(mixed + "!", "T"), mixed.length());
        refused(open(mixed + "(", "T"), mixed.length());
    }

    /** .. open at a time (till their unit ends). */
    private static void openedAgain() {
        String nots = "!".repeat(20), parens = "(".repeat(20), ends = ")".repeat(20);
        reads(nots + "T&" + nots + "a<0", "a<0");
        reads(nots + "a<0|" + nots + "b<0", "(a<0|b<0)");
        reads(nots + "a<0->" + nots + "b<0", "(-a<=0|b<0)");
        reads(parens + "a<0" + ends + "&" + parens + "b<0" + ends, "(a<0&b<0)");
        reads("Ea.".repeat(20) + "a<0&" + "Ab.".repeat(20) + "b<0", "(Ea.a<0&Ab.b<0)");
        String nineteen = "(".repeat(19);
        reads(open(nineteen, "!a<0&!b<0|Ec.c<0->Ad.d<0&(a<0)"), "(((a<0|b<0)&Ac.-c<=0)|(Ad.d<0&a<0))");
        refused(open(nineteen, "!a<0&!(b<0)"), 25);
        refused(open(nineteen, "!!a<0"), 20);
        refused(open(nineteen, "(!a<0)"), 20);
        refused(open(nineteen, "Ea.!a<0"), 22);
        refused(open(parens, "a<0&(b<0)"), 24);
        refused(open(parens, "a<0&!b<0"), 24);
        refused(open(parens, "a<0|Ab.b<0"), 24);
        reads(parens + "a<0" + ")" + "&!b<0" + ")".repeat(19), "(a<0&-b<=0)");
        refused(parens + "a<0" + ")" + "&!(b<0)" + ")".repeat(19), 26);
        reads("!".repeat(19) + "(a<0)&" + "!".repeat(19) + "(b<0)", "(-a<=0&-b<=0)");
        refused("!".repeat(19) + "(a<0&(b<0))", 24);
        refused("!".repeat(19) + "(a<0&!b<0)", 24);
        reads("!".repeat(18) + "(a<0&(b<0))", "(a<0&b<0)");
        refused(parens + "a<0" + ends.substring(1), 42);
        refused(parens + "a<0" + ends + ")", 43);
    }

    public static void main(String[] args) {
        newObject();
        typeCount();
        typeBytes();
        typeFull();
        clearing();
        readAgain();
        emptyTexts();
        blanks();
        noBlanks();
        variables();
        grammarOfFormulas();
        grammarOfAtoms();
        numbers();
        opened();
        openedAgain();
        end("text edges");
    }
}
