import java.util.ArrayList;
import java.util.HashMap;
import java.util.LinkedHashSet;
import java.util.List;
import java.util.Map;
import java.util.Random;

/**
 * The place of a FAULT, held against Earley's way with the document's grammar, byte by byte: a byte
 * is a FAULT if no rule of the grammar goes on with it. How many ! E A ( are open stands in the names
 * of the rules.
 */
public final class FaultPlaces {
    private static final int TEXTS = 6000;
    private static final int OPEN_MOST = 20;
    private static final Map<String, List<String[]>> RULES = new HashMap<>();

    /** A symbol is a rule's name, which begins with $, or the bytes that may stand there. */
    private static void rule(String name, String... symbols) {
        RULES.computeIfAbsent(name, k -> new ArrayList<>()).add(symbols);
    }

    private static void grammar() {
        rule("$start", "$blanks", "$formula0");
        rule("$blanks");
        rule("$blanks", " ", "$blanks");
        for (int open = 0; open <= OPEN_MOST; open++) {
            rule("$formula" + open, "$alt" + open);
            rule("$formula" + open, "$alt" + open, "-", ">", "$blanks", "$formula" + open);
            rule("$alt" + open, "$con" + open);
            rule("$alt" + open, "$alt" + open, "|", "$blanks", "$con" + open);
            rule("$con" + open, "$unit" + open);
            rule("$con" + open, "$con" + open, "&", "$blanks", "$unit" + open);
            rule("$unit" + open, "TF", "$blanks");
            rule("$unit" + open, "$side", "$relation", "$side");
            if (open < OPEN_MOST) {
                rule("$unit" + open, "!", "$blanks", "$unit" + (open + 1));
                rule("$unit" + open, "EA", "$blanks", "abcdefgh", "$blanks", ".", "$blanks", "$unit" + (open + 1));
                rule("$unit" + open, "(", "$blanks", "$formula" + (open + 1), ")", "$blanks");
            }
        }
        rule("$side", "$sum");
        rule("$side", "-", "$blanks", "$sum");
        rule("$sum", "$item");
        rule("$sum", "$sum", "+-", "$blanks", "$item");
        rule("$relation", "<>=", "$blanks");
        rule("$relation", "<>!", "=", "$blanks");
        rule("$item", "abcdefgh", "$blanks");
        rule("$item", "$number", "$blanks");
        rule("$item", "$number", "$blanks", "abcdefgh", "$blanks");
        String digit = "0123456789";
        String[][] wholes = {{digit}, {digit, digit}, {digit, digit, digit}, {digit, digit, digit, digit}};
        for (String[] whole : wholes) rule("$whole", whole);
        rule("$number", "$whole");
        rule("$number", "$whole", "/", "123456789");
        rule("$number", "$whole", "/", "1", "012");
    }

    private record Item(String name, int which, int dot, int from) {
        String next() {
            String[] symbols = RULES.get(name).get(which);
            return dot < symbols.length ? symbols[dot] : null;
        }

        Item moved() {
            return new Item(name, which, dot + 1, from);
        }
    }

    private static void predict(LinkedHashSet<Item> set, List<Item> queue, String name, int place) {
        for (int k = 0; k < RULES.get(name).size(); k++) add(set, queue, new Item(name, k, 0, place));
    }

    private static void add(LinkedHashSet<Item> set, List<Item> queue, Item item) {
        if (set.add(item)) queue.add(item);
    }

    private static void close(List<LinkedHashSet<Item>> sets, int place) {
        LinkedHashSet<Item> set = sets.get(place);
        List<Item> queue = new ArrayList<>(set);
        for (int k = 0; k < queue.size(); k++) {
            Item item = queue.get(k);
            String next = item.next();
            if (next == null) {
                for (Item waiting : new ArrayList<>(sets.get(item.from()))) {
                    if (item.name().equals(waiting.next())) add(set, queue, waiting.moved());
                }
            } else if (next.startsWith("$")) {
                predict(set, queue, next, place);
                if (next.equals("$blanks")) add(set, queue, item.moved());
            }
        }
    }

    /** -1, or the place of the FAULT. */
    private static int fault(String text) {
        List<LinkedHashSet<Item>> sets = new ArrayList<>();
        sets.add(new LinkedHashSet<>());
        sets.get(0).add(new Item("$start", 0, 0, 0));
        close(sets, 0);
        for (int i = 0; i < text.length(); i++) {
            LinkedHashSet<Item> after = new LinkedHashSet<>();
            for (Item item : sets.get(i)) {
                String next = item.next();
                if (next != null && !next.startsWith("$") && next.indexOf(text.charAt(i)) >= 0) after.add(item.moved());
            }
            if (after.isEmpty()) return i;
            sets.add(after);
            close(sets, i + 1);
        }
        for (Item item : sets.get(text.length())) {
            if (item.name().equals("$start") && item.next() == null) return -1;
        }
        return text.length();
    }

    private static int read(String text) {
        LinearTruths x = new LinearTruths();
        for (int i = 0; i < text.length(); i++) x.type(text.charAt(i), 1);
        return x.read();
    }

    /** A text that goes on mostly with bytes that may stand there. */
    private static String random(Random random) {
        String[] tokens = {"a", "b", "h", "<", "<=", "=", "!=", ">", ">=", "&", "|", "->", "-", "+", "(", ")", "!", "Ea.",
            "Ah.", "E b .", "T", "F", "1", "12", "1/12", "9/1", "1/2a", "2 b", " ", "i", "/", ".", "0", "1234", "1/3"};
        String text = random.nextInt(4) == 0 ? "(((((((((!!!!!!!!".substring(random.nextInt(16)) : "";
        int most = 1 + random.nextInt(30);
        for (int k = 0; k < most; k++) {
            String longer = text + tokens[random.nextInt(tokens.length)];
            int tries = random.nextInt(25) == 0 ? 0 : 30;
            while (tries > 0 && read(longer) >= 0 && read(longer) < longer.length()) {
                longer = text + tokens[random.nextInt(tokens.length)];
                tries--;
            }
            text = longer.length() <= 60 ? longer : text;
        }
        return text;
    }

    public static void main(String[] args) {
        grammar();
        Random random = new Random(7);
        int wrong = 0, whole = 0, inside = 0, ends = 0;
        List<String> texts = new ArrayList<>(List.of("", " ", "T ", " T", "T-", "T- >T", "T->", "a->b<c", "a<b->c<d", "a<b- >c",
                "a<b-c->T", "a<-b", "a<--b", "a<->T", "a! =b", "a!=b", "a< =b", "a<=b", "a=>b", "a==b", "!!=", "1 /2<a", "1/ 2<a",
                "12 34<a", "12345<a", "1/10<a", "1/13<a", "1/20<a", "1/01<a", "0000/9 h<a", "a b<c", "2ab<c", "a<b<c", "(T))",
                "(T", "()", "T&", "T&&T", "T|->T", "Ei.T", "E a . T", "Ea T", "A", "Ta", "a<1)", "a<b!", "x", "TT", "a+-b<c"));
        String opens = "(!Ea.(!Ea.(!Ea.(!Ea.(!Ea.(!Ea.(!Ab.";
        for (int n = 1; n <= opens.length(); n++) texts.add(opens.substring(0, n) + "T");
        texts.add("!".repeat(20) + "T&" + "(".repeat(20) + "T");
        texts.add("!".repeat(10) + "(T&" + "!".repeat(9) + "a<b&" + "!".repeat(10) + "T)");
        while (texts.size() < TEXTS) texts.add(random(random));
        for (String text : texts) {
            int want = fault(text), got = read(text);
            whole += want == -1 ? 1 : 0;
            inside += want >= 0 && want < text.length() ? 1 : 0;
            ends += want == text.length() ? 1 : 0;
            if (got != want && ++wrong <= 10) System.out.println("'" + text + "': read() answered " + got + ", due is " + want);
        }
        System.out.println("fault places: " + whole + " whole texts, " + inside + " with a fault inside, " + ends + " at the end");
        if (wrong > 0) System.exit(1);
    }
}
