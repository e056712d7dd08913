import java.util.Random;

/** Random runs of calls, with the answers of the engine and of the model compared at each call. */
public final class ComparedRunsTest {
    private static final int RUNS = 1500;
    private static final int CALLS = 512;
    // What these answer is free, but here they go on as before.
    private static final int LONG_CALLS = 5000;
    private static final String[] WORDS = {"a", "the", "cat", "cats", "Cats", "dog", "DOG", "dogs", "ass", "glass", "red",
        "reds", "x", "y", "title", "body", "1", "12", "abcdefghijkl", "abcdefghijklm", "abcdefghijks", "abcdefghijksx",
        "ca", "cart", "thes", "ands", "and", "in", "of", "c", "d", "category", "b1", "b2s"};
    private static final String[] GAPS = {" ", " ", " ", ", ", "-", "  ", ".\n", "\u00e9", "_"};
    private static final int[] ODD = {-1, 0, 1, 2, 3, 4, 5, 6, 7, Integer.MIN_VALUE, Integer.MAX_VALUE};

    private final Random random;
    private final SearchEngine engine;
    private final Model model;
    private final int run;
    private final boolean many;
    private final int most;
    private int calls;

    private ComparedRunsTest(int run) {
        this.run = run;
        random = new Random(run);
        int how = random.nextInt(4);
        many = run % 3 == 0;
        most = run % 100 == 99 ? LONG_CALLS : CALLS;
        engine = new SearchEngine(how);
        model = new Model(how);
    }

    public static void main(String[] args) {
        int runs = args.length > 0 ? Integer.parseInt(args[0]) : RUNS;
        for (int run = 0; run < runs && Calls.wrong < 20; run++) {
            new ComparedRunsTest(run).go();
        }
        Calls.end("ComparedRunsTest");
    }

    private void go() {
        while (calls < most && Calls.wrong < 20) {
            int kind = random.nextInt(100);
            if (kind < (many ? 60 : 35)) {
                addSome();
            } else if (kind < (many ? 65 : 45)) {
                long key = anyKey();
                due("delete", engine.delete(key) ? 1 : 0, model.delete(key) ? 1 : 0);
            } else if (kind < (many ? 67 : 57)) {
                due("refresh", engine.refresh(), model.refresh());
            } else if (kind < 70) {
                due("open", engine.open(), model.open());
            } else if (kind < 73) {
                int view = anyView();
                due("close", engine.close(view), model.close(view));
            } else if (kind < 90) {
                searchSome();
            } else if (kind < 94) {
                nearSome();
            } else if (kind < 98) {
                say(random.nextInt(10) == 0 ? anyQuery(1) : anyWord());
                int view = anyView();
                int field = random.nextInt(8) == 0 ? odd() : random.nextInt(2);
                due("frequency", engine.frequency(view, field), model.frequency(view, field));
            } else {
                oddCall();
            }
            lookAtSome();
        }
    }

    private void due(String call, long got, long want) {
        calls++;
        Calls.due("run " + run + " call " + calls + " " + call, got, want);
    }

    private int odd() {
        return random.nextInt(12) == 0 ? random.nextInt() : ODD[random.nextInt(ODD.length)];
    }

    private long anyKey() {
        return random.nextInt(20) == 0 ? random.nextLong() : random.nextInt(many ? 400 : 30) - 5;
    }

    private int anyView() {
        return random.nextInt(20) == 0 ? odd() : random.nextInt(4);
    }

    private String anyWord() {
        if (random.nextInt(8) > 0) {
            return WORDS[random.nextInt(WORDS.length)];
        }
        StringBuilder word = new StringBuilder();
        int length = 1 + random.nextInt(random.nextInt(4) == 0 ? 14 : 4);
        for (int i = 0; i < length; i++) {
            word.append("abcstABS012".charAt(random.nextInt(11)));
        }
        return word.toString();
    }

    private void say(String text) {
        byte[] bytes = Calls.bytes(text);
        for (int from = 0; from < bytes.length; from += 16) {
            long a = 0;
            long b = 0;
            for (int i = 0; i < 16; i++) {
                long value = from + i < bytes.length ? bytes[from + i] & 255 : random.nextInt(256);
                if (i < 8) {
                    a = a << 8 | value;
                } else {
                    b = b << 8 | value;
                }
            }
            int n = Math.min(16, bytes.length - from);
            due("feed", engine.feed(a, b, n), model.feed(a, b, n));
        }
    }

    private void addSome() {
        if (random.nextInt(many ? 2 : 20) > 0) {
            StringBuilder text = new StringBuilder();
            int length = random.nextInt(random.nextInt(10) == 0 ? 110 : 14);
            int zero = random.nextInt(6);
            for (int i = 0; i < length; i++) {
                if (i == zero || random.nextInt(40) == 0) {
                    text.append('\0');
                }
                text.append(anyWord()).append(GAPS[random.nextInt(GAPS.length)]);
            }
            say(text.toString());
        }
        long key = anyKey();
        int x = random.nextInt(10) == 0 ? odd() : random.nextInt(20) - 10;
        int y = random.nextInt(10) == 0 ? odd() : random.nextInt(20) - 10;
        due("add", engine.add(key, x, y), model.add(key, x, y));
    }

    private String blank() {
        return random.nextInt(6) == 0 ? " ".repeat(1 + random.nextInt(2)) : "";
    }

    private String anyQuery(int depth) {
        StringBuilder text = new StringBuilder();
        int parts = 1 + random.nextInt(random.nextInt(40) == 0 ? 20 : 3);
        for (int i = 0; i < parts; i++) {
            if (i > 0) {
                text.append(random.nextInt(2) == 0 ? blank() + "|" + blank() : " ");
            }
            text.append(anyPart(depth));
        }
        return text.toString();
    }

    private String anyPart(int depth) {
        String part = random.nextInt(6) == 0 ? "-" + blank() : "";
        int kind = random.nextInt(12);
        String field = random.nextInt(3) == 0 ? (random.nextBoolean() ? "title" : "body") + blank() + ":" + blank() : "";
        if (kind < 2 && depth < 10) {
            part += "(" + blank() + anyQuery(depth + 1 + (random.nextInt(4) == 0 ? 0 : 2)) + blank() + ")";
        } else if (kind == 2) {
            part += "[" + blank() + (random.nextBoolean() ? "x" : "y") + " " + anyNumber() + " " + anyNumber() + blank() + "]";
        } else if (kind < 6) {
            part += field + "\"" + blank() + anyWord();
            int words = random.nextInt(random.nextInt(20) == 0 ? 9 : 3);
            for (int i = 0; i < words; i++) {
                part += " " + anyWord();
            }
            part += blank() + "\"" + (random.nextInt(2) == 0 ? blank() + "~" + blank() + random.nextInt(10) : "");
        } else {
            part += field + anyWord() + (random.nextInt(4) == 0 ? blank() + "*" : "");
        }
        return part + (random.nextInt(5) == 0 ? blank() + "^" + blank() + random.nextInt(10) : "");
    }

    private String anyNumber() {
        int most = random.nextInt(10) == 0 ? 2000000000 : 12;
        return (random.nextInt(3) == 0 ? "-" + blank() : "") + random.nextInt(most);
    }

    private String spoiled(String query) {
        StringBuilder text = new StringBuilder(query);
        int times = 1 + random.nextInt(2);
        for (int i = 0; i < times; i++) {
            int place = random.nextInt(text.length() + 1);
            String bytes = "()|-*\":~^[]xa19 ,\0\u00e9";
            char put = bytes.charAt(random.nextInt(bytes.length()));
            int kind = random.nextInt(3);
            if (kind == 0 || place == text.length()) {
                text.insert(place, put);
            } else if (kind == 1) {
                text.setCharAt(place, put);
            } else {
                text.deleteCharAt(place);
            }
        }
        return text.toString();
    }

    private void searchSome() {
        String query;
        if (random.nextInt(30) == 0) {
            query = "(a)^2 ".repeat(17) + "-(a b)".repeat(random.nextInt(4)) + " c | d";
        } else if (random.nextInt(30) == 0) {
            query = "(".repeat(6 + random.nextInt(4)) + anyWord() + ")^9".repeat(6 + random.nextInt(4));
        } else {
            query = anyQuery(0);
        }
        say(random.nextInt(3) == 0 ? spoiled(query) : query);
        int view = anyView();
        due("search of " + query, engine.search(view), model.search(view));
        int hits = model.told(4);
        for (int i = 0; i < hits && i < 4 && calls < most; i++) {
            lookAtHit(i);
        }
        lookAtHit(hits - 1);
        lookAtHit(hits);
    }

    private void lookAtHit(int i) {
        due("key", engine.key(i), model.key(i));
        for (int what = 0; what < 6; what++) {
            due("hit " + what, engine.hit(i, what), model.hit(i, what));
        }
        for (int field = 0; field < 2; field++) {
            due("mark", engine.mark(i, field, false), model.mark(i, field, false));
            due("mark", engine.mark(i, field, true), model.mark(i, field, true));
        }
    }

    private void nearSome() {
        say(random.nextInt(10) == 0 ? spoiled(anyWord()) : anyWord());
        int view = anyView();
        due("near", engine.near(view), model.near(view));
        for (int i = -2; i < 14; i++) {
            Calls.due("run " + run + " nearByte", engine.nearByte(i), model.nearByte(i));
        }
    }

    private void oddCall() {
        int a = odd();
        int b = odd();
        int c = odd();
        due("feed", engine.feed(a, b, c), model.feed(a, b, c));
        due("bucket", engine.bucket(a, b, c), model.bucket(a, b, c));
        due("over", engine.over(a, b), model.over(a, b));
        due("hit", engine.hit(a, b), model.hit(a, b));
        due("key", engine.key(a), model.key(a));
        due("mark", engine.mark(a, b, true), model.mark(a, b, true));
        due("segment", engine.segment(a, b), model.segment(a, b));
        due("view", engine.view(a, b), model.view(a, b));
        due("told", engine.told(a), model.told(a));
        due("nearByte", engine.nearByte(a), model.nearByte(a));
    }

    private void lookAtSome() {
        for (int what = 0; what < 7; what++) {
            Calls.due("run " + run + " told " + what, engine.told(what), model.told(what));
        }
        if (random.nextInt(4) > 0) {
            return;
        }
        for (int s = 0; s <= model.told(2); s++) {
            for (int what = 0; what < 5; what++) {
                Calls.due("run " + run + " segment " + s + " " + what, engine.segment(s, what), model.segment(s, what));
            }
        }
        for (int i = 0; i < 12; i++) {
            Calls.due("run " + run + " view " + i, engine.view(i / 3, i % 3), model.view(i / 3, i % 3));
        }
        for (int i = 0; i < 6; i++) {
            Calls.due("run " + run + " over " + i, engine.over(i / 3, i % 3), model.over(i / 3, i % 3));
        }
        int from = random.nextInt(30) - 15;
        int width = random.nextInt(12);
        Calls.due("run " + run + " bucket", engine.bucket(0, from, width), model.bucket(0, from, width));
        Calls.due("run " + run + " bucket", engine.bucket(1, from, width), model.bucket(1, from, width));
    }
}
