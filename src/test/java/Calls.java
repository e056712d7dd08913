import java.nio.charset.StandardCharsets;

/** Longer calls made of the engine's own ones, and the count of wrong answers. */
final class Calls {
    private Calls() { }

    static int wrong = 0;

    static void due(String call, long got, long want) {
        Sentences.tests();
        if (got != want) {
            wrong++;
            System.out.println(call + " answered " + got + ", due is " + want + Sentences.told());
        }
    }

    static void due(String call, boolean got, boolean want) {
        due(call, got ? 1 : 0, want ? 1 : 0);
    }

    static void end(String name) {
        System.out.println(name + ": " + (wrong == 0 ? "all answers are as due" : wrong + " answers are not as due"));
        if (wrong != 0) {
            System.exit(1);
        }
    }

    static byte[] bytes(String text) {
        return text.getBytes(StandardCharsets.ISO_8859_1);
    }

    /** Feeds bytes, sixteen a call; the last answer. */
    static int say(SearchEngine engine, byte[] bytes) {
        int answer = 0;
        for (int from = 0; from < bytes.length; from += 16) {
            int n = Math.min(16, bytes.length - from);
            answer = engine.feed(half(bytes, from), half(bytes, from + 8), n);
        }
        return answer;
    }

    static int say(SearchEngine engine, String text) {
        return say(engine, bytes(text));
    }

    private static long half(byte[] bytes, int from) {
        long half = 0;
        for (int i = from; i < from + 8; i++) {
            half = half << 8 | (i < bytes.length ? bytes[i] & 255 : 0);
        }
        return half;
    }

    static int put(SearchEngine engine, long key, int x, int y, String title, String body) {
        say(engine, title + "\0" + body);
        return engine.add(key, x, y);
    }

    static int put(SearchEngine engine, long key, String body) {
        return put(engine, key, 0, 0, "", body);
    }

    static int ask(SearchEngine engine, int view, String query) {
        say(engine, query);
        return engine.search(view);
    }

    static int near(SearchEngine engine, int view, String word) {
        say(engine, word);
        return engine.near(view);
    }

    static int frequency(SearchEngine engine, int view, int field, String word) {
        say(engine, word);
        return engine.frequency(view, field);
    }

    static String nearest(SearchEngine engine) {
        StringBuilder text = new StringBuilder();
        int length = engine.nearByte(-1);
        for (int i = 0; i < length; i++) {
            text.append((char) engine.nearByte(i));
        }
        return text.toString();
    }

    /** The keys of the hits, each with its score: "2=58 1=39". */
    static String hits(SearchEngine engine) {
        StringBuilder text = new StringBuilder();
        for (int i = 0; i < engine.told(4); i++) {
            text.append(i == 0 ? "" : " ").append(engine.key(i)).append('=').append(engine.hit(i, 0));
        }
        return text.toString();
    }

    static void dueText(String call, String got, String want) {
        Sentences.tests();
        if (!got.equals(want)) {
            wrong++;
            System.out.println(call + " answered \"" + got + "\", due is \"" + want + "\"" + Sentences.told());
        }
    }

    /** An engine with one segment of documents with keys 1, 2, .. and a view 0 of it. */
    static SearchEngine engineOf(int how, String... bodies) {
        SearchEngine engine = new SearchEngine(how);
        for (int i = 0; i < bodies.length; i++) {
            put(engine, i + 1, bodies[i]);
        }
        engine.refresh();
        engine.open();
        return engine;
    }

    static void dueHits(SearchEngine engine, String query, String want) {
        ask(engine, 0, query);
        dueText(query, hits(engine), want);
    }

    /** That a query is not WRONG, whatever it finds. */
    static void dueRight(SearchEngine engine, String query) {
        int answer = ask(engine, 0, query);
        due("search of " + query, answer, Math.max(0, answer));
    }

    static void dueWrong(SearchEngine engine, String query, int place) {
        due("search of " + query, ask(engine, 0, query), -10 - place);
    }
}
