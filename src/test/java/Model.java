import java.math.BigInteger;
import java.nio.charset.StandardCharsets;
import java.util.ArrayDeque;
import java.util.ArrayList;
import java.util.Comparator;
import java.util.Deque;
import java.util.List;
import java.util.Locale;
import java.util.Set;
import java.util.TreeSet;

/** The document's promises once more, by texts and lists and without any care for speed, to compare with. */
final class Model {
    static final int NONE = -1;
    static final int BAD = -2;
    static final int FULL = -3;
    private static final Set<String> STOPS = Set.of("a", "an", "and", "in", "is", "it", "of", "on", "or", "the", "to");
    private static final BigInteger MOST = BigInteger.valueOf(1000000000);

    record Token(int start, int length, String term) { }

    static final class Doc {
        long key;
        int x;
        int y;
        int added;
        boolean deleted;
        List<List<Token>> fields = new ArrayList<>();

        int number(int what) {
            return what == 0 ? x : y;
        }

        boolean has(int field, String term) {
            return fields.get(field).stream().anyMatch(t -> term.equals(t.term()));
        }
    }

    record Seg(int level, List<Doc> docs) { }

    record Seen(List<Seg> segs, List<Doc> all, Set<Integer> dead) { }

    record Piece(String text, int place) { }

    /** A part of a query; kind is group, word, beginning, phrase or range. */
    static final class Atom {
        String kind;
        int field = -1;
        boolean not;
        int times = 1;
        List<List<Atom>> any = new ArrayList<>();
        List<String> words = new ArrayList<>();
        int slack;
        int what;
        int from;
        int to;
    }

    record Hit(Doc doc, BigInteger score) { }

    private final boolean stems;
    private final boolean stops;
    private String tape = "";
    private final List<Doc> docs = new ArrayList<>();
    private List<Doc> buffer = new ArrayList<>();
    private List<Seg> segs = new ArrayList<>();
    private final Seen[] views = new Seen[4];
    private int merges;
    private List<Hit> hits = new ArrayList<>();
    private List<List<Atom>> asked = new ArrayList<>();
    private int answered = NONE;
    private String near = "";
    private List<Piece> pieces;
    private int reading;

    Model(int how) {
        stems = (how & 1) == 1;
        stops = (how & 2) == 2;
    }

    int feed(long a, long b, int n) {
        if (n < 1 || n > 16) {
            return BAD;
        }
        if (tape.length() + n > 600) {
            return FULL;
        }
        String hex = String.format("%016x%016x", a, b);
        for (int i = 0; i < n; i++) {
            tape += (char) Integer.parseInt(hex.substring(2 * i, 2 * i + 2), 16);
        }
        return tape.length();
    }

    private String take() {
        String taken = tape;
        tape = "";
        return taken;
    }

    private String term(String word) {
        String term = word.toLowerCase(Locale.ROOT);
        term = term.substring(0, Math.min(12, term.length()));
        if (stems && term.matches(".{2,}[^s]s")) {
            term = term.substring(0, term.length() - 1);
        }
        return stops && STOPS.contains(term) ? null : term;
    }

    private List<Token> tokens(String text) {
        List<Token> tokens = new ArrayList<>();
        var matcher = java.util.regex.Pattern.compile("[A-Za-z0-9]+").matcher(text);
        while (matcher.find()) {
            tokens.add(new Token(matcher.start(), matcher.end() - matcher.start(), term(matcher.group())));
        }
        return tokens;
    }

    int add(long key, int x, int y) {
        String text = take();
        int zero = text.indexOf('\0');
        String title = zero < 0 ? text : text.substring(0, zero);
        String body = zero < 0 ? "" : text.substring(zero + 1);
        if (title.length() > 100 || body.length() > 400) {
            return BAD;
        }
        if (docs.size() == 400) {
            return FULL;
        }
        delete(key);
        Doc doc = new Doc();
        doc.key = key;
        doc.x = x;
        doc.y = y;
        doc.added = docs.size();
        doc.fields.add(tokens(title));
        doc.fields.add(tokens(body));
        docs.add(doc);
        buffer.add(doc);
        if (buffer.stream().filter(d -> !d.deleted).count() == 16) {
            refresh();
        }
        return docs.size();
    }

    boolean delete(long key) {
        for (Doc doc : docs) {
            if (doc.key == key && !doc.deleted) {
                doc.deleted = true;
                return true;
            }
        }
        return false;
    }

    private static List<Doc> undeleted(List<Doc> from) {
        return new ArrayList<>(from.stream().filter(d -> !d.deleted).toList());
    }

    int refresh() {
        List<Doc> fresh = undeleted(buffer);
        buffer = new ArrayList<>();
        segs = new ArrayList<>(segs);
        if (!fresh.isEmpty()) {
            segs.add(new Seg(0, fresh));
        }
        for (int level = 0; level < 9; level++) {
            int of = level;
            List<Seg> same = segs.stream().filter(s -> s.level() == of).limit(4).toList();
            if (same.size() == 4) {
                List<Doc> together = new ArrayList<>();
                same.forEach(s -> together.addAll(undeleted(s.docs())));
                int place = segs.indexOf(same.get(0));
                segs.set(place, new Seg(level + 1, together));
                for (Seg gone : same.subList(1, 4)) {
                    segs.removeIf(s -> s == gone);
                }
                if (together.isEmpty()) {
                    segs.remove(place);
                }
                merges++;
                level = -1;
            }
        }
        return segs.size();
    }

    int open() {
        for (int i = 0; i < 4; i++) {
            if (views[i] == null) {
                List<Doc> all = new ArrayList<>();
                segs.forEach(s -> all.addAll(s.docs()));
                Set<Integer> dead = new TreeSet<>();
                all.stream().filter(d -> d.deleted).forEach(d -> dead.add(d.added));
                views[i] = new Seen(new ArrayList<>(segs), all, dead);
                return i;
            }
        }
        return FULL;
    }

    private Seen seen(int view) {
        return view >= 0 && view < 4 ? views[view] : null;
    }

    int close(int view) {
        if (seen(view) == null) {
            return BAD;
        }
        views[view] = null;
        return 0;
    }

    int search(int view) {
        String text = take();
        if (seen(view) == null) {
            return BAD;
        }
        pieces = pieces(text);
        int wrong = wrongPlace();
        if (wrong >= 0) {
            return -10 - wrong;
        }
        reading = 0;
        asked = readAny();
        answered = view;
        hits = new ArrayList<>();
        for (Doc doc : seen(view).all()) {
            BigInteger score = seen(view).dead().contains(doc.added) ? null : scoreAny(asked, doc, seen(view));
            if (score != null) {
                hits.add(new Hit(doc, score));
            }
        }
        hits.sort(Comparator.comparing((Hit h) -> h.score().negate())
                .thenComparing(h -> h.doc().key).thenComparing(h -> h.doc().added));
        return hits.size();
    }

    private static boolean isWordByte(char c) {
        return c < 128 && Character.isLetterOrDigit(c);
    }

    private static boolean isWord(String text) {
        return !text.isEmpty() && text.chars().allMatch(c -> isWordByte((char) c));
    }

    /** The pieces, those that are none included, and the end as an empty one. */
    private static List<Piece> pieces(String text) {
        List<Piece> pieces = new ArrayList<>();
        int at = 0;
        while (at < text.length()) {
            int from = at;
            while (at < text.length() && isWordByte(text.charAt(at))) {
                at++;
            }
            if (at == from) {
                at++;
            }
            if (text.charAt(from) != ' ') {
                pieces.add(new Piece(text.substring(from, at), from));
            }
        }
        pieces.add(new Piece("", text.length()));
        return pieces;
    }

    /** Walks the pieces through what may come next: an automaton with a count of brackets. */
    private int wrongPlace() {
        int parts = 0;
        int words = 0;
        int numbers = 0;
        Deque<String> open = new ArrayDeque<>();
        String state = "part";
        for (int i = 0; i < pieces.size(); i++) {
            Piece piece = pieces.get(i);
            String t = piece.text();
            boolean word = isWord(t);
            boolean field = (t.equals("title") || t.equals("body")) && pieces.get(i + 1).text().equals(":");
            if (state.equals("part") || isBehindPart(state) && (word || Set.of("\"", "(", "[", "-").contains(t))) {
                parts++;
                if (parts > 40) {
                    return piece.place();
                }
                state = "part";
            }
            if (state.equals("part") && t.equals("-")) {
                state = "atom";
                continue;
            }
            String next = null;
            switch (state) {
                case "part", "atom" -> {
                    next = field ? "colon" : word ? "word" : t.equals("\"") ? "phrase" : t.equals("[") ? "range" : null;
                    if (t.equals("(") && open.size() < 8) {
                        open.push("(");
                        next = "part";
                    }
                }
                case "colon" -> next = "behind colon";
                case "behind colon" -> next = word ? "word" : t.equals("\"") ? "phrase" : null;
                case "phrase" -> {
                    words = 1;
                    next = word ? "phrase words" : null;
                }
                case "phrase words" -> {
                    words++;
                    next = word && words <= 8 ? "phrase words" : t.equals("\"") ? "phrase end" : null;
                }
                case "slack" -> next = t.matches("[0-9]") ? "atom end" : null;
                case "times" -> next = t.matches("[1-9]") ? "part end" : null;
                case "range" -> {
                    numbers = 0;
                    next = t.equals("x") || t.equals("y") ? "number" : null;
                }
                case "number", "digits" -> {
                    if (t.equals("-") && state.equals("number")) {
                        next = "digits";
                    } else if (t.matches("[0-9]{1,9}")) {
                        numbers++;
                        next = numbers == 2 ? "range end" : "number";
                    }
                }
                case "range end" -> next = t.equals("]") ? "atom end" : null;
                default -> {
                    if (t.equals("|")) {
                        next = "part";
                    } else if (t.equals(")") && !open.isEmpty()) {
                        open.pop();
                        next = "atom end";
                    } else if (t.equals("^") && !state.equals("part end")) {
                        next = "times";
                    } else if (t.equals("*") && state.equals("word")) {
                        next = "atom end";
                    } else if (t.equals("~") && state.equals("phrase end")) {
                        next = "slack";
                    } else if (t.isEmpty() && open.isEmpty()) {
                        return NONE;
                    }
                }
            }
            if (next == null) {
                return piece.place();
            }
            state = next;
        }
        throw new IllegalStateException("a query without an end");
    }

    private static boolean isBehindPart(String state) {
        return Set.of("word", "atom end", "part end", "phrase end").contains(state);
    }

    private String piece() {
        return pieces.get(reading).text();
    }

    private boolean skip(String text) {
        if (piece().equals(text)) {
            reading++;
            return true;
        }
        return false;
    }

    private List<List<Atom>> readAny() {
        List<List<Atom>> any = new ArrayList<>();
        do {
            List<Atom> all = new ArrayList<>();
            while (!Set.of("", ")", "|").contains(piece())) {
                all.add(readPart());
            }
            any.add(all);
        } while (skip("|"));
        return any;
    }

    private Atom readPart() {
        Atom atom = new Atom();
        atom.not = skip("-");
        if (pieces.get(reading + 1).text().equals(":")) {
            atom.field = piece().equals("title") ? 0 : 1;
            reading += 2;
        }
        if (skip("(")) {
            atom.kind = "group";
            atom.any = readAny();
            reading++;
        } else if (skip("[")) {
            atom.kind = "range";
            atom.what = piece().equals("x") ? 0 : 1;
            reading++;
            atom.from = readNumber();
            atom.to = readNumber();
            reading++;
        } else if (skip("\"")) {
            atom.kind = "phrase";
            while (!skip("\"")) {
                atom.words.add(piece());
                reading++;
            }
            atom.slack = skip("~") ? readNumber() : 0;
        } else {
            atom.words.add(piece());
            reading++;
            atom.kind = skip("*") ? "beginning" : "word";
        }
        atom.times = skip("^") ? readNumber() : 1;
        return atom;
    }

    private int readNumber() {
        int sign = skip("-") ? -1 : 1;
        int number = sign * Integer.parseInt(piece());
        reading++;
        return number;
    }

    private static BigInteger least(BigInteger score) {
        return score.min(MOST);
    }

    private BigInteger scoreAny(List<List<Atom>> any, Doc doc, Seen seen) {
        BigInteger sum = null;
        for (List<Atom> all : any) {
            BigInteger allSum = BigInteger.ZERO;
            for (Atom atom : all) {
                BigInteger score = scorePart(atom, doc, seen);
                allSum = allSum == null || score == null ? null : least(allSum.add(score));
            }
            if (allSum != null) {
                sum = sum == null ? allSum : least(sum.add(allSum));
            }
        }
        return sum;
    }

    private BigInteger scorePart(Atom atom, Doc doc, Seen seen) {
        BigInteger score = scoreAtom(atom, doc, seen);
        if (atom.not) {
            return score == null ? BigInteger.ZERO : null;
        }
        return score == null ? null : least(score.multiply(BigInteger.valueOf(atom.times)));
    }

    private BigInteger scoreAtom(Atom atom, Doc doc, Seen seen) {
        if (atom.kind.equals("group")) {
            return scoreAny(atom.any, doc, seen);
        }
        if (atom.kind.equals("range")) {
            int number = doc.number(atom.what);
            return atom.from <= number && number <= atom.to ? BigInteger.ZERO : null;
        }
        BigInteger sum = null;
        for (int field = 0; field < 2; field++) {
            BigInteger score = atom.field == -1 || atom.field == field ? scoreField(atom, doc, field, seen) : null;
            if (score != null) {
                sum = sum == null ? score : least(sum.add(score));
            }
        }
        return sum;
    }

    private BigInteger scoreField(Atom atom, Doc doc, int field, Seen seen) {
        List<Token> tokens = doc.fields.get(field);
        int weight = field == 0 ? 3 : 1;
        if (atom.kind.equals("beginning")) {
            boolean found = tokens.stream().anyMatch(t -> begins(t, atom));
            return found ? BigInteger.valueOf(16L * weight) : null;
        }
        List<String> terms = new ArrayList<>();
        List<Integer> numbers = new ArrayList<>();
        for (int i = 0; i < atom.words.size(); i++) {
            if (term(atom.words.get(i)) != null) {
                terms.add(term(atom.words.get(i)));
                numbers.add(i);
            }
        }
        if (terms.isEmpty()) {
            return BigInteger.ZERO;
        }
        int found = 0;
        for (int p = 0; p < tokens.size(); p++) {
            if (terms.get(0).equals(tokens.get(p).term()) && fits(tokens, terms, numbers, 1, p, p, atom.slack)) {
                found++;
            }
        }
        if (found == 0) {
            return null;
        }
        long rare = 0;
        for (String term : terms) {
            rare += rare(term, field, seen);
        }
        return BigInteger.valueOf(64L * found * rare * weight / (8 + tokens.size()));
    }

    private static boolean fits(List<Token> tokens, List<String> terms, List<Integer> numbers, int i, int first,
            int before, int slack) {
        if (i == terms.size()) {
            return before - first <= numbers.get(i - 1) - numbers.get(0) + slack;
        }
        for (int p = before + numbers.get(i) - numbers.get(i - 1); p < tokens.size(); p++) {
            if (terms.get(i).equals(tokens.get(p).term())
                    && fits(tokens, terms, numbers, i + 1, first, p, slack)) {
                return true;
            }
        }
        return false;
    }

    private static boolean begins(Token token, Atom atom) {
        String word = atom.words.get(0).toLowerCase(Locale.ROOT);
        return token.term() != null && token.term().startsWith(word.substring(0, Math.min(12, word.length())));
    }

    private static int holders(String term, int field, Seen seen) {
        return (int) seen.all().stream().filter(d -> d.has(field, term)).count();
    }

    private static int rare(String term, int field, Seen seen) {
        int holders = holders(term, field, seen);
        int rare = 1;
        for (int k = 1; k < 20; k++) {
            if (seen.all().size() / (1 << k) >= holders) {
                rare = 1 + k;
            }
        }
        return rare;
    }

    private Hit at(int i) {
        return i >= 0 && i < hits.size() ? hits.get(i) : null;
    }

    long key(int i) {
        return at(i) == null ? 0 : at(i).doc().key;
    }

    int hit(int i, int what) {
        if (what < 0 || what > 5) {
            return BAD;
        }
        if (at(i) == null) {
            return NONE;
        }
        Doc doc = at(i).doc();
        return List.of(at(i).score().intValueExact(), doc.x, doc.y, doc.fields.get(0).size(), doc.fields.get(1).size(),
                doc.added).get(what);
    }

    int bucket(int what, int from, int width) {
        if (what < 0 || what > 1 || width < 1) {
            return BAD;
        }
        return (int) hits.stream().mapToLong(h -> h.doc().number(what))
                .filter(n -> n >= from && n < (long) from + width).count();
    }

    long over(int what, int of) {
        if (what < 0 || what > 1 || of < 0 || of > 2) {
            return BAD;
        }
        var all = hits.stream().mapToLong(h -> h.doc().number(what)).summaryStatistics();
        if (hits.isEmpty()) {
            return 0;
        }
        return of == 0 ? all.getSum() : of == 1 ? all.getMin() : all.getMax();
    }

    int mark(int i, int field, boolean length) {
        if (field < 0 || field > 1) {
            return BAD;
        }
        if (at(i) == null) {
            return NONE;
        }
        for (Token token : at(i).doc().fields.get(field)) {
            if (token.term() != null && names(asked, token, field)) {
                return length ? token.length() : token.start();
            }
        }
        return NONE;
    }

    private boolean names(List<List<Atom>> any, Token token, int field) {
        for (List<Atom> all : any) {
            for (Atom atom : all) {
                if (atom.not || atom.field != -1 && atom.field != field) {
                    continue;
                }
                boolean named = switch (atom.kind) {
                    case "group" -> names(atom.any, token, field);
                    case "beginning" -> begins(token, atom);
                    case "range" -> false;
                    default -> atom.words.stream().anyMatch(w -> token.term().equals(term(w)));
                };
                if (named) {
                    return true;
                }
            }
        }
        return false;
    }

    int near(int view) {
        String word = take();
        if (seen(view) == null || !isWord(word)) {
            return BAD;
        }
        String wanted = word.toLowerCase(Locale.ROOT).substring(0, Math.min(12, word.length()));
        Set<String> terms = new TreeSet<>();
        seen(view).all().forEach(d -> d.fields.get(1).stream().filter(t -> t.term() != null)
                .forEach(t -> terms.add(t.term())));
        String best = terms.stream().min(Comparator.comparing((String t) -> edits(t, wanted))
                .thenComparing(t -> -holders(t, 1, seen(view))).thenComparing(t -> t)).orElse(null);
        if (best == null || edits(best, wanted) > 2) {
            return NONE;
        }
        near = best;
        return edits(best, wanted);
    }

    private static int edits(String one, String other) {
        int[][] edits = new int[one.length() + 1][other.length() + 1];
        for (int i = 0; i <= one.length(); i++) {
            for (int j = 0; j <= other.length(); j++) {
                if (i == 0 || j == 0) {
                    edits[i][j] = i + j;
                } else {
                    int same = one.charAt(i - 1) == other.charAt(j - 1) ? 0 : 1;
                    edits[i][j] = Math.min(edits[i - 1][j - 1] + same,
                            1 + Math.min(edits[i - 1][j], edits[i][j - 1]));
                }
            }
        }
        return edits[one.length()][other.length()];
    }

    int nearByte(int i) {
        byte[] bytes = near.getBytes(StandardCharsets.ISO_8859_1);
        if (bytes.length == 0 || i < -1 || i >= bytes.length) {
            return NONE;
        }
        return i == -1 ? bytes.length : bytes[i];
    }

    int segment(int s, int what) {
        if (what < 0 || what > 4) {
            return BAD;
        }
        if (s < 0 || s >= segs.size()) {
            return NONE;
        }
        List<Doc> inside = segs.get(s).docs();
        return switch (what) {
            case 0 -> segs.get(s).level();
            case 1 -> inside.size();
            case 2 -> inside.size() - undeleted(inside).size();
            default -> (int) inside.stream().flatMap(d -> d.fields.get(what - 3).stream()).map(Token::term)
                    .filter(t -> t != null).distinct().count();
        };
    }

    int view(int view, int what) {
        if (seen(view) == null || what < 0 || what > 2) {
            return BAD;
        }
        int all = seen(view).all().size();
        return List.of(seen(view).segs().size(), all, all - seen(view).dead().size()).get(what);
    }

    int frequency(int view, int field) {
        String word = take();
        if (seen(view) == null || field < 0 || field > 1 || !isWord(word)) {
            return BAD;
        }
        String term = term(word);
        return term == null ? 0 : holders(term, field, seen(view));
    }

    int told(int what) {
        int open = 0;
        for (Seen view : views) {
            open += view == null ? 0 : 1;
        }
        int[] told = {docs.size(), undeleted(buffer).size(), segs.size(), open, hits.size(), answered, merges};
        return what >= 0 && what < told.length ? told[what] : BAD;
    }
}
