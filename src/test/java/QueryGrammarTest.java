import java.util.ArrayList;
import java.util.LinkedHashSet;
import java.util.List;
import java.util.Map;
import java.util.Set;
import java.util.TreeMap;

/**
 * All rows of a few pieces, compared with the document's grammar itself: a query is WRONG at the first piece with
 * which no query of the grammar begins. (An Earley parser tells that of any grammar, so nothing of it is by hand.)
 */
public final class QueryGrammarTest {
    private static final int PIECES = 4;
    private static final int CALLS = 500;
    private static final String[] SHOWN = {"title", "body", "x", "y", "cat", "0", "7", "12", "000000012", "1234567890",
        "Title", "(", ")", "|", "-", "*", "\"", ":", "~", "^", "[", "]", ",", "\0", "\u00e9"};
    private static final Map<String, List<String>> RULES = new TreeMap<>();

    static {
        for (int depth = 0; depth <= 8; depth++) {
            rule("ANY" + depth, "ALL" + depth, "ALL" + depth + " | ANY" + depth);
            rule("ALL" + depth, "PART" + depth, "PART" + depth + " ALL" + depth);
            rule("PART" + depth, "TIMES" + depth, "- TIMES" + depth);
            rule("TIMES" + depth, "ATOM" + depth, "ATOM" + depth + " ^ <[1-9]>");
            rule("ATOM" + depth, "RANGE", "ASKED", "<title|body> : ASKED");
            if (depth < 8) {
                rule("ATOM" + depth, "( ANY" + (depth + 1) + " )");
            }
        }
        rule("ASKED", "WORD", "WORD *", "PHRASE", "PHRASE ~ <[0-9]>");
        rule("PHRASE", "\" WORD8 \"");
        for (int words = 1; words <= 8; words++) {
            rule("WORD" + words, "WORD");
            if (words > 1) {
                rule("WORD" + words, "WORD WORD" + (words - 1));
            }
        }
        rule("WORD", "<[A-Za-z0-9]+>");
        rule("RANGE", "[ <x|y> NUMBER NUMBER ]");
        rule("NUMBER", "<[0-9]{1,9}>", "- <[0-9]{1,9}>");
    }

    private record Item(String name, List<String> asked, int read, int from) { }

    private final List<Set<Item>> chart = new ArrayList<>();
    private SearchEngine engine;
    private int calls = CALLS;
    private int asked;

    private static void rule(String name, String... asked) {
        RULES.computeIfAbsent(name, n -> new ArrayList<>()).addAll(List.of(asked));
    }

    public static void main(String[] args) {
        QueryGrammarTest test = new QueryGrammarTest();
        test.chart.add(test.closed(new LinkedHashSet<>(predicted("ANY0", 0)), 0));
        test.tryAll("", args.length > 0 ? Integer.parseInt(args[0]) : PIECES);
        test.tryBeginnings();
        System.out.println(test.asked + " queries");
        Calls.end("QueryGrammarTest");
    }

    private static List<Item> predicted(String name, int from) {
        List<Item> items = new ArrayList<>();
        for (String asked : RULES.get(name)) {
            items.add(new Item(name, List.of(asked.split(" ")), 0, from));
        }
        return items;
    }

    /** The items with all that follow from them without another piece. */
    private Set<Item> closed(Set<Item> start, int at) {
        Set<Item> items = new LinkedHashSet<>(start);
        List<Item> left = new ArrayList<>(start);
        while (!left.isEmpty()) {
            Item item = left.remove(left.size() - 1);
            List<Item> found = new ArrayList<>();
            if (item.read() == item.asked().size()) {
                for (Item waiting : item.from() == at ? items : chart.get(item.from())) {
                    if (item.name().equals(next(waiting))) {
                        found.add(behind(waiting));
                    }
                }
            } else if (RULES.containsKey(next(item))) {
                found.addAll(predicted(next(item), at));
            }
            for (Item one : found) {
                if (items.add(one)) {
                    left.add(one);
                }
            }
        }
        return items;
    }

    private static String next(Item item) {
        return item.read() < item.asked().size() ? item.asked().get(item.read()) : "";
    }

    private static Item behind(Item item) {
        return new Item(item.name(), item.asked(), item.read() + 1, item.from());
    }

    private static boolean fits(String piece, String terminal) {
        return terminal.startsWith("<") ? piece.matches(terminal.substring(1, terminal.length() - 1))
            : piece.equals(terminal);
    }

    /** Reads one piece more; whether a query can begin so. Undone by forget(). */
    private boolean read(String piece) {
        Set<Item> items = new LinkedHashSet<>();
        for (Item item : chart.get(chart.size() - 1)) {
            if (!RULES.containsKey(next(item)) && fits(piece, next(item))) {
                items.add(behind(item));
            }
        }
        if (items.isEmpty()) {
            return false;
        }
        chart.add(closed(items, chart.size()));
        return true;
    }

    private void forget() {
        chart.remove(chart.size() - 1);
    }

    private boolean isWhole() {
        return chart.get(chart.size() - 1).stream()
            .anyMatch(i -> i.name().equals("ANY0") && i.from() == 0 && i.read() == i.asked().size());
    }

    private static String joined(String text, String piece) {
        boolean apart = !text.isEmpty() && text.substring(text.length() - 1).matches("[A-Za-z0-9]")
            && piece.matches("[A-Za-z0-9]+") || (text.length() + piece.length()) % 4 == 3;
        return text + (apart ? " " : "") + piece;
    }

    /** Asks what was read, and with each piece behind it; goes on where a query can. */
    private void tryAll(String text, int more) {
        ask(text, isWhole() ? -1 : text.length());
        for (int i = 0; i < SHOWN.length && more > 0; i++) {
            String longer = joined(text, SHOWN[i]);
            if (read(SHOWN[i])) {
                tryAll(longer, more - 1);
                forget();
            } else {
                ask(longer, longer.length() - SHOWN[i].length());
                ask(longer + " cat", longer.length() - SHOWN[i].length());
            }
        }
    }

    /** What stands behind a longer beginning. */
    private void tryBeginnings() {
        String[] beginnings = {"( ( ( ( ( ( ( (", "- ( - ( ( ( ( ( (", "\" a b c d e f g h", "\" a b c d e f g",
            "cat * ^ 3", "( cat ) ^ 2", "title : \" cat \" ~ 3", "[ y - 4 - 5", "[ x 1 2 ] ^ 9", "( cat | - dog ) - ( a"};
        for (String beginning : beginnings) {
            String text = "";
            String[] pieces = beginning.split(" ");
            for (String piece : pieces) {
                text = joined(text, piece);
                if (!read(piece)) {
                    Calls.due("a beginning: " + beginning, 0, 1);
                    return;
                }
            }
            tryAll(text, 3);
            for (int i = 0; i < pieces.length; i++) {
                forget();
            }
        }
    }

    private void ask(String query, int wrongPlace) {
        if (calls + 40 > CALLS) {
            engine = new SearchEngine(0);
            engine.open();
            calls = 1;
        }
        calls += query.length() / 16 + 2;
        asked++;
        Calls.due("search of " + query, Calls.ask(engine, 0, query), wrongPlace < 0 ? 0 : -10 - wrongPlace);
    }
}
