import java.util.ArrayList;
import java.util.HashMap;
import java.util.LinkedHashSet;
import java.util.List;
import java.util.Map;
import java.util.Set;

/**
 * FAULT by the document's grammar alone: its productions stand here as the document has them, and
 * Earley's way of reading tells which tokens can stand behind others. No reader is written by
 * hand, so that what a hand would get wrong twice is seen. Every row of some tokens is tried, each
 * up to its first fault. Argument: how many tokens behind the key (5, if there is none).
 */
public final class GrammarTest {
    private static final int MOST_OPEN = 6;
    private static final String[] TOKENS = {"gust", "7", "cell", "if", "or", "and", "not", "(", ")", "-", "*", "=", "x", "123456", "?"};

    /** What each name may be, as rows of names and tokens. */
    private static final Map<String, List<String[]>> GRAMMAR = new HashMap<>();

    private record Item(String name, String[] row, int dot, int from) {
        boolean isEnded() { return dot == row.length; }
        String next() { return row[dot]; }
        Item moved() { return new Item(name, row, dot + 1, from); }
    }

    private static int wrong = 0;
    private static long asked = 0;
    private static WindBoat boat = new WindBoat();

    public static void main(String[] args) {
        writeGrammar();
        List<Set<Item>> start = new ArrayList<>();
        start.add(closed(start, 0, Set.of(new Item("START", new String[] {"RULE"}, 0, 0))));
        extend(start, "", args.length > 0 ? Integer.parseInt(args[0]) + 1 : 6, 0);
        nestings();
        System.out.println(asked - wrong + " texts have the fault that the grammar gives them, " + wrong + " have another");
        if (wrong != 0) System.exit(1);
    }

    private static void is(String name, String row) {
        GRAMMAR.computeIfAbsent(name, n -> new ArrayList<>()).add(row.isEmpty() ? new String[0] : row.split(" "));
    }

    /** The grammar of part 3; a name's number tells how many of ( not - are open. */
    private static void writeGrammar() {
        is("RULE", "KEY E0");
        is("RULE", "KEY E0 if E0");
        for (String key : List.of("shut", "gust", "tired")) is("KEY", key);
        for (int n = 0; n <= MOST_OPEN; n++) {
            repeated("E" + n, "AND" + n, List.of("or"));
            repeated("AND" + n, "NOT" + n, List.of("and"));
            is("NOT" + n, "SUM" + n);
            for (String sign : List.of("=", "<", ">")) is("NOT" + n, "SUM" + n + " " + sign + " SUM" + n);
            repeated("SUM" + n, "TERM" + n, List.of("+", "-"));
            repeated("TERM" + n, "ONE" + n, List.of("*", "/", "%"));
            is("ONE" + n, "7");
            for (String name : List.of("cell", "row", "hour", "sail", "shelter", "hands")) is("ONE" + n, name);
            if (n < MOST_OPEN) {
                is("NOT" + n, "not NOT" + (n + 1));
                is("ONE" + n, "- ONE" + (n + 1));
                is("ONE" + n, "( E" + (n + 1) + " )");
            }
        }
    }

    private static void repeated(String name, String part, List<String> signs) {
        is(name, part + " MORE" + name);
        is("MORE" + name, "");
        for (String sign : signs) is("MORE" + name, sign + " " + part + " MORE" + name);
    }

    /** All that may be under way at a place, given some of it. */
    private static Set<Item> closed(List<Set<Item>> before, int at, Set<Item> some) {
        List<Item> todo = new ArrayList<>(some);
        Set<Item> all = new LinkedHashSet<>(some);
        Set<String> keys = new LinkedHashSet<>();
        for (Item item : some) keys.add(key(item));
        for (int i = 0; i < todo.size(); i++) {
            Item item = todo.get(i);
            List<Item> more = new ArrayList<>();
            if (item.isEnded()) {
                Iterable<Item> there = item.from() == at ? new ArrayList<>(todo) : before.get(item.from());
                for (Item waiting : there)
                    if (!waiting.isEnded() && waiting.next().equals(item.name())) more.add(waiting.moved());
            } else if (GRAMMAR.containsKey(item.next())) {
                for (String[] row : GRAMMAR.get(item.next())) {
                    more.add(new Item(item.next(), row, 0, at));
                    if (row.length == 0) more.add(item.moved());
                }
            }
            for (Item m : more)
                if (keys.add(key(m))) {
                    todo.add(m);
                    all.add(m);
                }
        }
        return all;
    }

    private static String key(Item i) { return i.name() + ": " + String.join(" ", i.row()) + "." + i.dot() + "@" + i.from(); }

    /** What is under way behind one token more; empty, if it can't stand there. */
    private static Set<Item> behind(List<Set<Item>> places, String token) {
        Set<Item> moved = new LinkedHashSet<>();
        for (Item item : places.get(places.size() - 1))
            if (!item.isEnded() && item.next().equals(token)) moved.add(item.moved());
        return moved.isEmpty() ? moved : closed(places, places.size(), moved);
    }

    private static boolean isWhole(Set<Item> place) {
        return place.stream().anyMatch(i -> i.isEnded() && i.name().equals("START"));
    }

    private static void extend(List<Set<Item>> places, String text, int tokens, int salt) {
        Set<Item> last = places.get(places.size() - 1);
        ask(text, isWhole(last) ? -1 : text.length());
        ask(text + "  ", isWhole(last) ? -1 : text.length() + 2);
        if (tokens == 0) return;
        for (int k = 0; k < TOKENS.length; k++) {
            String token = TOKENS[k];
            String gap = needsGap(text, token) || (salt + k) % 3 == 0 ? " " : "";
            Set<Item> next = behind(places, token);
            if (next.isEmpty()) {
                ask(text + gap + token, text.length() + gap.length());
                // what stands behind a fault changes nothing
                ask(text + gap + token + " " + TOKENS[(salt + k) % TOKENS.length], text.length() + gap.length());
            } else {
                places.add(next);
                extend(places, text + gap + token, tokens - 1, salt * 7 + k + 1);
                places.remove(places.size() - 1);
            }
        }
    }

    private static boolean needsGap(String text, String token) {
        if (text.isEmpty()) return false;
        char last = text.charAt(text.length() - 1);
        char first = token.charAt(0);
        return Character.isLetter(last) && Character.isLetter(first) || Character.isDigit(last) && Character.isDigit(first);
    }

    /** All rows of ten openings behind a key, and what ends some of them ahead of the tenth. */
    private static void nestings() {
        String[] openings = {"not", "(", "-"};
        String[] between = {"", "1 ) (", "1 and", "1 * -"};
        for (int row = 0; row < 3 * 3 * 3 * 3 * 3 * 3 * 3; row++)
            for (int where = 4; where < 7; where++)
                for (String ending : between) {
                    List<String> tokens = new ArrayList<>(List.of("shut"));
                    for (int i = 0, r = row; i < 7; i++, r /= 3) {
                        tokens.add(openings[r % 3]);
                        if (i == where && !ending.isEmpty()) tokens.addAll(List.of(ending.split(" ")));
                    }
                    tokens.add("cell");
                    read(tokens);
                }
    }

    private static void read(List<String> tokens) {
        List<Set<Item>> places = new ArrayList<>();
        places.add(closed(places, 0, Set.of(new Item("START", new String[] {"RULE"}, 0, 0))));
        StringBuilder text = new StringBuilder();
        int fault = -1;
        for (String token : tokens) {
            Set<Item> next = fault >= 0 ? Set.of() : behind(places, token.equals("1") ? "7" : token);
            if (fault < 0 && next.isEmpty()) fault = text.length();
            places.add(next);
            text.append(token).append(' ');
        }
        if (fault < 0 && !isWhole(places.get(places.size() - 1))) fault = text.length();
        ask(text.toString(), fault);
    }

    /** Asks the class; a text that is a rule is answered by its number, which is 0 in an object without rules. */
    private static void ask(String text, int fault) {
        if (asked % 40 == 0) {
            boat = new WindBoat();
            boat.image();
        }
        asked++;
        boat.wipe();
        for (int i = 0; i < text.length(); i++) boat.feed(text.charAt(i), 1);
        int got = boat.rule(0, 12);
        int due = fault < 0 ? 0 : -10 - fault;
        boat.back();
        if (got != due) {
            wrong++;
            if (wrong <= 20) System.out.println("\"" + text + "\" answered " + got + ", due is " + due);
        }
    }
}
