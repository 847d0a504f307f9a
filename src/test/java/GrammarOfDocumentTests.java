import java.io.IOException;
import java.nio.file.Files;
import java.nio.file.Path;
import java.util.ArrayList;
import java.util.HashMap;
import java.util.HashSet;
import java.util.List;
import java.util.Map;
import java.util.Set;
import java.util.regex.Matcher;
import java.util.regex.Pattern;

/**
 * Which token can come where, by the grammar as it stands in the document: its
 * rules are read from there, and beginnings of texts are followed by Earley's
 * method. Behind each of them all words, signs and other tokens are tried.
 */
public final class GrammarOfDocumentTests {
    private static final String FIRST_WORDS = "text: {block}.";
    private static final String LAST_WORDS = "The first token that is badly written";
    /** Expressions are told in words there: these are the same in signs. */
    private static final String EXPRESSION = "expression: operand {between operand}. between: OR | XOR | AND | '&' | '=' | '<>' | '<' | '>' | '<=' | '>=' | '+' | '-' | '*' | '/' | MOD. ";
    private static final int WALKS = 60;
    private static final int MOST_TOKENS = 60;

    private static final Map<String, List<List<String>>> RULES = new HashMap<>();
    private static final Set<String> EMPTY = new HashSet<>();
    private static final Map<String, Integer> USED = new HashMap<>();
    private static List<String> parts = new ArrayList<>();
    private static int at = 0;
    private static int made = 0;
    private static long seed = 4711;

    public static void main(String[] args) throws IOException {
        readRules();
        findEmpty();
        List<String> tokens = terminals();
        // 41 words, name, number, place, and 22 signs
        Checks.due("tokens of the grammar", tokens.size(), 41 + 3 + 22);
        for (int walk = 0; walk < WALKS; walk++) {
            follow(tokens);
        }
        for (String token : tokens) {
            Checks.due(token + " came to be used", USED.containsKey(token), true);
        }
        Checks.finish("GrammarOfDocumentTests");
    }

    private static void readRules() throws IOException {
        String document = Files.readString(Path.of("../shared/DOC.md")).replaceAll("\\s+", " ");
        String told = document.substring(document.indexOf(FIRST_WORDS), document.indexOf(LAST_WORDS));
        String grammar = told.replaceAll("expression: operands with .* from the left on\\. ", Matcher.quoteReplacement(EXPRESSION));
        Matcher matcher = Pattern.compile("'[^']+'|[A-Za-z_]+|[:.|\\[\\]{}()]").matcher(grammar);
        while (matcher.find()) {
            parts.add(matcher.group());
        }
        while (at < parts.size()) {
            String name = parts.get(at);
            at += 2;
            choices(name);
            at++;
        }
    }

    /** x | y | .. up to what ends it; all become rules of this name. */
    private static void choices(String name) {
        RULES.put(name, new ArrayList<>());
        List<String> row = new ArrayList<>();
        while (!".])}".contains(parts.get(at))) {
            String part = parts.get(at);
            at++;
            if (part.equals("|")) {
                RULES.get(name).add(row);
                row = new ArrayList<>();
            } else if ("[{(".contains(part)) {
                row.add(group(part));
            } else {
                row.add(part);
            }
        }
        RULES.get(name).add(row);
    }

    private static String group(String bracket) {
        String name = "#" + made;
        made++;
        choices(name);
        at++;
        if (bracket.equals("[")) {
            RULES.get(name).add(new ArrayList<>());
        } else if (bracket.equals("{")) {
            String many = name + "*";
            RULES.put(many, List.of(List.of(), List.of(many, name)));
            return many;
        }
        return name;
    }

    private static void findEmpty() {
        boolean grows = true;
        while (grows) {
            grows = false;
            for (Map.Entry<String, List<List<String>>> rule : RULES.entrySet()) {
                for (List<String> row : rule.getValue()) {
                    if (EMPTY.containsAll(row)) {
                        grows |= EMPTY.add(rule.getKey());
                    }
                }
            }
        }
    }

    private static List<String> terminals() {
        Set<String> found = new HashSet<>();
        for (List<List<String>> rows : RULES.values()) {
            for (List<String> row : rows) {
                for (String part : row) {
                    if (!RULES.containsKey(part)) {
                        found.add(part);
                    }
                }
            }
        }
        List<String> sorted = new ArrayList<>(found);
        sorted.sort(null);
        return sorted;
    }

    private record Item(String name, List<String> row, int dot, int from) {
        String next() {
            return dot < row.size() ? row.get(dot) : "";
        }

        Item moved() {
            return new Item(name, row, dot + 1, from);
        }
    }

    /** All items of the last set, which begins with these. */
    private static List<Item> closed(Set<Item> begin, List<List<Item>> sets) {
        List<Item> all = new ArrayList<>(begin);
        Set<Item> known = new HashSet<>(begin);
        for (int i = 0; i < all.size(); i++) {
            Item item = all.get(i);
            List<Item> more = new ArrayList<>();
            if (item.next().isEmpty()) {
                for (Item waiting : item.from() < sets.size() ? sets.get(item.from()) : List.copyOf(all)) {
                    if (waiting.next().equals(item.name())) {
                        more.add(waiting.moved());
                    }
                }
            } else if (RULES.containsKey(item.next())) {
                for (List<String> row : RULES.get(item.next())) {
                    more.add(new Item(item.next(), row, 0, sets.size()));
                }
                if (EMPTY.contains(item.next())) {
                    more.add(item.moved());
                }
            }
            for (Item found : more) {
                if (known.add(found)) {
                    all.add(found);
                }
            }
        }
        return all;
    }

    private static Set<Item> moved(List<Item> set, String token) {
        Set<Item> behind = new HashSet<>();
        for (Item item : set) {
            if (item.next().equals(token)) {
                behind.add(item.moved());
            }
        }
        return behind;
    }

    private static boolean mayEnd(List<Item> set) {
        return set.stream().anyMatch(item -> item.name().equals("text") && item.next().isEmpty() && item.from() == 0);
    }

    private static String written(String token) {
        switch (token) {
            case "name":
                return "zz";
            case "number":
                return "77";
            case "place":
                return "%QX7";
            default:
                return token.replace("'", "");
        }
    }

    private static int below(int bound) {
        seed = seed * 6364136223846793005L + 1442695040888963407L;
        return (int) ((seed >>> 33) % bound);
    }

    /** A way through the grammar, by tokens that were used less than others so far. */
    private static void follow(List<String> tokens) {
        Set<Item> begin = new HashSet<>();
        for (List<String> row : RULES.get("text")) {
            begin.add(new Item("text", row, 0, 0));
        }
        List<List<Item>> sets = new ArrayList<>();
        StringBuilder text = new StringBuilder();
        String last = "";
        for (int i = 0; i < MOST_TOKENS; i++) {
            List<Item> set = closed(begin, sets);
            sets.add(set);
            tryAll(tokens, set, sets, text.toString());
            last = chosen(tokens, set, last);
            text.append(written(last)).append(' ');
            begin = moved(set, last);
        }
    }

    private static String chosen(List<String> tokens, List<Item> set, String last) {
        String best = "";
        int least = Integer.MAX_VALUE;
        for (String token : tokens) {
            int worth = 3 * USED.getOrDefault(last + " " + token, 0) + below(4);
            if (!moved(set, token).isEmpty() && worth < least) {
                best = token;
                least = worth;
            }
        }
        USED.merge(last + " " + best, 1, Integer::sum);
        USED.merge(best, 1, Integer::sum);
        return best;
    }

    private static void tryAll(List<String> tokens, List<Item> set, List<List<Item>> sets, String text) {
        CodeMaker maker = new CodeMaker();
        Checks.feed(maker, text);
        int fault = maker.make();
        boolean isWhole = mayEnd(set);
        Checks.due("whether a text may end behind " + text, fault == 0 || fault > 7, isWhole);
        if (!isWhole) {
            Checks.due("fault of " + text, fault, 6);
            Checks.due("place of " + text, maker.count(1), text.length());
        }
        for (String token : tokens) {
            Set<Item> behind = moved(set, token);
            Checks.feedTwenty(maker, written(token) + " ".repeat(20), 0);
            int told = maker.make();
            String what = text + written(token);
            if (behind.isEmpty()) {
                Checks.due("what can't come: " + what, told, 6);
                Checks.due("its place: " + what, maker.count(1), text.length());
            } else if (mayEnd(closed(behind, sets))) {
                Checks.due("a whole text: " + what, told == 0 || told > 7, true);
            } else {
                Checks.due("what can come: " + what, told, 6);
                Checks.due("the text's end: " + what, maker.count(1), text.length() + 20);
            }
            maker.end(0);
        }
    }
}
