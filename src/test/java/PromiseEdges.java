/** A test for each sentence of the promises 1 to 19. */
final class PromiseEdges {
    private static final int NONE = SearchEngine.NONE;
    private static final int BAD = SearchEngine.BAD;
    private static final int FULL = SearchEngine.FULL;
    private static final int TITLE = 0;
    private static final int BODY = 1;
    private static final int[] FAR = {Integer.MIN_VALUE, Integer.MIN_VALUE + 1, -100, -4, -2, 400, 1000, 65536,
        Integer.MAX_VALUE - 1, Integer.MAX_VALUE};

    private PromiseEdges() { }

    static void run() {
        newObject();
        bitsOfHow();
        feed();
        feedBad();
        feedFull();
        add();
        addWithoutAZero();
        addCounts();
        addBad();
        addFull();
        delete();
        refresh();
        open();
        openFull();
        close();
        closeBad();
        search();
        searchWrong();
        searchOfNoView();
        key();
        noKey();
        hit();
        hitBadAndNone();
        bucket();
        bucketBad();
        over();
        overWithoutHits();
        overBad();
        mark();
        markOfTheQuery();
        markBehindNot();
        markOfTheField();
        markPlaceAndLength();
        markBadAndNone();
        nearIsAWord();
        nearOfTheDead();
        nearLeastEdits();
        nearCutAndSmall();
        nearGreatestFrequency();
        nearLeastByBytes();
        nearTwoAtMost();
        nearNone();
        nearBad();
        nearByte();
        nearByteNone();
        segment();
        segmentBadAndNone();
        view();
        viewBad();
        frequency();
        frequencyBad();
        told();
        toldAnswer();
        toldBad();
        lastCalls();
    }

    private static SearchEngine threeDocuments() {
        SearchEngine engine = new SearchEngine(0);
        Calls.put(engine, 1, 10, -1, "cat", "cat dog");
        Calls.put(engine, 2, 20, -2, "", "cat");
        Calls.put(engine, 3, 30, -3, "", "dog");
        engine.refresh();
        engine.open();
        return engine;
    }

    private static void newObject() {
        Sentences.says("`SearchEngine(int how)`: An engine without documents:");
        SearchEngine engine = new SearchEngine(3);
        int[] told = {0, 0, 0, 0, 0, NONE, 0};
        for (int what = 0; what < told.length; what++) {
            Calls.due("told " + what, engine.told(what), told[what]);
        }
        Calls.due("segment", engine.segment(0, 0), NONE);
        Calls.due("view", engine.view(0, 0), BAD);
        Calls.due("delete", engine.delete(0), false);
        Calls.due("key", engine.key(0), 0);
        Calls.due("hit", engine.hit(0, 0), NONE);
        Calls.due("mark", engine.mark(0, 0, false), NONE);
        Calls.due("bucket", engine.bucket(0, Integer.MIN_VALUE, Integer.MAX_VALUE), 0);
        Calls.due("over", engine.over(0, 1), 0);
        Calls.due("nearByte", engine.nearByte(-1), NONE);
        Calls.due("an empty tape", engine.feed(0, 0, 1), 1);
        SearchEngine other = new SearchEngine(3);
        other.add(1, 0, 0);
        other.open();
        Calls.due("nothing of another one", engine.told(0), 0);
        Calls.due("nothing of another one", engine.told(3), 0);
    }

    private static void bitsOfHow() {
        Sentences.says("it STEMS if how has the bit 1, it STOPS if it has the bit 2 (others count for nothing).");
        int[] hows = {0, 1, 2, 3, 4, 5, 6, 7, 8, 16, 1 << 30, Integer.MIN_VALUE, Integer.MAX_VALUE, -1, -2, -3, -4};
        for (int how : hows) {
            SearchEngine engine = Calls.engineOf(how, "cats cat the");
            boolean stems = how % 2 != 0;
            boolean stops = Math.floorMod(how, 4) > 1;
            Calls.due("stems " + how, Calls.frequency(engine, 0, BODY, "cats"), 1);
            Calls.due("terms " + how, engine.segment(0, 4), (stems ? 1 : 2) + (stops ? 0 : 1));
            Calls.due("stops " + how, Calls.frequency(engine, 0, BODY, "the"), stops ? 0 : 1);
        }
    }

    private static void feed() {
        Sentences.says("`int feed(long a, long b, int n)`: The first n (1 .. 16) of the sixteen bytes of a and b, "
            + "the highest of each first, come behind the TAPE: how many it has.");
        String letters = "abcdefghijklmnop";
        for (int n = 1; n <= 16; n++) {
            SearchEngine engine = new SearchEngine(0);
            Calls.due("feed " + n, engine.feed(0x6162636465666768L, 0x696a6b6c6d6e6f70L, n), n);
            Calls.due("feed 16 more", engine.feed(0x2070707070707070L, 0x7070707070707020L, 16), n + 16);
            engine.add(1, 0, 0);
            engine.refresh();
            engine.open();
            Calls.ask(engine, 0, letters.substring(0, Math.min(n, 12)));
            Calls.due("the bytes in their order", engine.mark(0, TITLE, true), n);
            Calls.due("two words", engine.hit(0, 3), 2);
        }
        SearchEngine signs = new SearchEngine(0);
        Calls.due("bytes above 127", signs.feed(-1, -1, 16), 16);
        Calls.due("a byte 0 counts, too", signs.feed(0, 0, 16), 32);
    }

    private static void feedBad() {
        Sentences.says("BAD; FULL: it would have more than 600.");
        SearchEngine engine = new SearchEngine(0);
        int[] bad = {0, -1, -16, 17, 18, 32, 600, Integer.MIN_VALUE, Integer.MAX_VALUE};
        for (int n : bad) {
            Calls.due("feed " + n, engine.feed(0, 0, n), BAD);
        }
        Calls.due("nothing came", engine.feed(0, 0, 1), 1);
    }

    private static void feedFull() {
        Sentences.says("FULL: it would have more than 600.");
        SearchEngine engine = new SearchEngine(0);
        for (int i = 1; i <= 37; i++) {
            Calls.due("feed", engine.feed(0x6161616161616161L, 0x6161616161616161L, 16), 16 * i);
        }
        for (int n = 9; n <= 16; n++) {
            Calls.due("592 and " + n, engine.feed(0, 0, n), FULL);
        }
        Calls.due("592 and 17", engine.feed(0, 0, 17), BAD);
        Calls.due("592 and 7", engine.feed(0x6161616161616161L, 0, 7), 599);
        Calls.due("599 and 2", engine.feed(0, 0, 2), FULL);
        Calls.due("599 and 1", engine.feed(0x2900000000000000L, 0, 1), 600);
        Calls.due("600 and 1", engine.feed(0, 0, 1), FULL);
        Calls.due("600 and 0", engine.feed(0, 0, 0), BAD);
        engine.open();
        Calls.due("all bytes are there, the last one is wrong", engine.search(0), -10 - 599);
        Calls.due("then none", engine.feed(0, 0, 16), 16);
    }

    private static void add() {
        Sentences.says("`int add(long key, int x, int y)`: A document is added: the TAPE's bytes to its first byte "
            + "0 are the TITLE, those behind it the BODY");
        SearchEngine engine = new SearchEngine(0);
        Calls.say(engine, "cat\0dog\0owl\0\0elk\0");
        Calls.due("add", engine.add(7, 8, 9), 1);
        Calls.say(engine, "\0");
        Calls.due("a 0 alone", engine.add(6, 8, 9), 2);
        Calls.say(engine, "ant\0");
        Calls.due("nothing behind the 0", engine.add(5, 8, 9), 3);
        engine.refresh();
        engine.open();
        Calls.ask(engine, 0, "[x 8 8] [y 9 9]");
        Calls.due("key", engine.key(2), 7);
        int[] titles = {1, 0, 1};
        int[] bodies = {0, 0, 3};
        for (int i = 0; i < 3; i++) {
            Calls.due("title", engine.hit(i, 3), titles[i]);
            Calls.due("body", engine.hit(i, 4), bodies[i]);
        }
        // N 3, each DF 1, RARE 2: 64 * 2 * 3 / 9 = 42 and three times 64 * 2 / 11 = 11.
        Calls.dueHits(engine, "title:cat body:dog body:owl body:elk", "7=75");
        Calls.ask(engine, 0, "elk");
        Calls.due("places count from behind the first 0", engine.mark(0, BODY, false), 9);
    }

    private static void addWithoutAZero() {
        Sentences.says("(without a 0: no BODY)");
        SearchEngine engine = new SearchEngine(0);
        Calls.say(engine, "cat dog");
        Calls.due("no 0", engine.add(1, 0, 0), 1);
        Calls.due("no byte", engine.add(2, 0, 0), 2);
        Calls.say(engine, "t".repeat(100));
        Calls.due("100 bytes of title", engine.add(3, 0, 0), 3);
        Calls.say(engine, "t".repeat(101));
        Calls.due("101 bytes of title", engine.add(3, 0, 0), BAD);
        engine.refresh();
        engine.open();
        Calls.ask(engine, 0, "[x 0 0]");
        int[] titles = {2, 0, 1};
        for (int i = 0; i < 3; i++) {
            Calls.due("title", engine.hit(i, 3), titles[i]);
            Calls.due("no body", engine.hit(i, 4), 0);
        }
    }

    private static void addCounts() {
        Sentences.says(": how many were added so far.");
        SearchEngine engine = new SearchEngine(0);
        Calls.due("the first", engine.add(1, 0, 0), 1);
        Calls.due("one that replaces it", engine.add(1, 0, 0), 2);
        engine.delete(1);
        Calls.due("behind a delete", engine.add(1, 0, 0), 3);
        Calls.put(engine, 1, 0, 0, "t".repeat(101), "");
        Calls.due("behind a refused one", engine.add(1, 0, 0), 4);
        for (int i = 5; i <= 40; i++) {
            Calls.due("over segments", engine.add(i, 0, 0), i);
        }
    }

    private static void addBad() {
        Sentences.says("BAD: one of both is too long;");
        SearchEngine engine = new SearchEngine(0);
        Calls.put(engine, 1, "cat");
        String title = "t".repeat(100);
        String body = "b".repeat(400);
        Calls.due("the title", Calls.put(engine, 1, 0, 0, title + "t", ""), BAD);
        Calls.due("the title, the body fits", Calls.put(engine, 1, 0, 0, title + "t", body), BAD);
        Calls.due("the body", Calls.put(engine, 1, 0, 0, "", body + "b"), BAD);
        Calls.due("the body, the title fits", Calls.put(engine, 1, 0, 0, title, body + "b"), BAD);
        Calls.due("600 bytes without a 0", addOf(engine, "t".repeat(600)), BAD);
        Calls.due("none was added", engine.told(0), 1);
        Calls.due("none was deleted", engine.told(1), 1);
        Calls.due("both fit", Calls.put(engine, 2, 0, 0, title, body), 2);
    }

    private static int addOf(SearchEngine engine, String tape) {
        Calls.say(engine, tape);
        return engine.add(1, 0, 0);
    }

    private static void addFull() {
        Sentences.says("FULL: there would be more than 400.");
        SearchEngine engine = new SearchEngine(0);
        for (int i = 1; i <= 400; i++) {
            Calls.due("add", engine.add(i, 0, 0), i);
        }
        Calls.due("a new key", engine.add(401, 0, 0), FULL);
        Calls.due("an old key", engine.add(400, 0, 0), FULL);
        Calls.due("of 600 bytes", addOf(engine, "t".repeat(600)), BAD);
        Calls.due("the old one is not deleted", engine.delete(400), true);
        Calls.due("the new one isn't there", engine.delete(401), false);
        Calls.due("so many", engine.told(0), 400);
    }

    private static void delete() {
        Sentences.says("`boolean delete(long key)`: The document of a KEY, that is in the BUFFER or a SEGMENT and "
            + "not deleted, is deleted: whether there was one.");
        SearchEngine engine = new SearchEngine(0);
        Calls.due("of an engine without documents", engine.delete(0), false);
        for (int key = 0; key < 20; key++) {
            engine.add(key, 0, 0);
        }
        Calls.due("in a segment", engine.delete(0), true);
        Calls.due("in a segment, again", engine.delete(0), false);
        Calls.due("the last one of a segment", engine.delete(15), true);
        Calls.due("the first one of the buffer", engine.delete(16), true);
        Calls.due("the last one of the buffer", engine.delete(19), true);
        Calls.due("in the buffer, again", engine.delete(19), false);
        Calls.due("no such key", engine.delete(20), false);
        Calls.due("no such key", engine.delete(-1), false);
        Calls.due("only the low half of a key", engine.delete(1L << 32 | 5), false);
        Calls.due("deleted in the segment", engine.segment(0, 2), 2);
        Calls.due("left in the buffer", engine.told(1), 2);
        engine.add(0, 0, 0);
        Calls.due("added again", engine.delete(0), true);
        Calls.due("deleted again", engine.delete(0), false);
    }

    private static void refresh() {
        Sentences.says("`int refresh()`: As told: how many SEGMENTS there are then.");
        SearchEngine engine = new SearchEngine(0);
        Calls.due("none", engine.refresh(), 0);
        int[] due = {1, 2, 3, 1, 2, 3, 4, 2, 3, 4, 5, 3, 4, 5, 6, 1, 2};
        for (int i = 0; i < due.length; i++) {
            engine.add(i, 0, 0);
            Calls.due("refresh " + i, engine.refresh(), due[i]);
            Calls.due("nothing new", engine.refresh(), due[i]);
            Calls.due("told", engine.told(2), due[i]);
        }
    }

    private static void open() {
        Sentences.says("`int open()`: A VIEW is opened: the least number that is none's (0 .. 3).");
        SearchEngine engine = new SearchEngine(0);
        for (int i = 0; i < 4; i++) {
            Calls.due("open", engine.open(), i);
        }
        engine.close(3);
        engine.close(1);
        Calls.due("the least", engine.open(), 1);
        engine.close(0);
        Calls.due("the least, again", engine.open(), 0);
        Calls.due("the last", engine.open(), 3);
        engine.add(1, 0, 0);
        engine.refresh();
        Calls.due("an old one is as it was", engine.view(0, 1), 0);
        engine.close(0);
        engine.open();
        Calls.due("a new one of the same number", engine.view(0, 1), 1);
        SearchEngine again = threeDocuments();
        again.delete(1);
        again.close(0);
        again.open();
        int[] due = {1, 3, 2};
        for (int what = 0; what < 3; what++) {
            Calls.due("nothing of the old one " + what, again.view(0, what), due[what]);
        }
        Calls.due("found by the new one", Calls.ask(again, 0, "cat | dog"), 2);
    }

    private static void openFull() {
        Sentences.says("FULL.");
        SearchEngine engine = new SearchEngine(0);
        for (int i = 0; i < 4; i++) {
            engine.open();
        }
        Calls.due("a fifth", engine.open(), FULL);
        Calls.due("still four", engine.told(3), 4);
        Calls.due("a fifth again", engine.open(), FULL);
    }

    private static void close() {
        Sentences.says("`int close(int view)`: A VIEW is closed: 0.");
        SearchEngine engine = threeDocuments();
        engine.open();
        Calls.due("close", engine.close(0), 0);
        Calls.due("it is gone", engine.view(0, 0), BAD);
        Calls.due("the other one stays", engine.view(1, 0), 1);
        Calls.due("open are", engine.told(3), 1);
        Calls.due("close", engine.close(1), 0);
        Calls.due("open are", engine.told(3), 0);
    }

    private static void closeBad() {
        Sentences.says("BAD: no such one.");
        SearchEngine engine = new SearchEngine(0);
        Calls.due("none is open", engine.close(0), BAD);
        engine.open();
        engine.open();
        int[] bad = {-1, 2, 3, 4, 5, Integer.MIN_VALUE, Integer.MAX_VALUE};
        for (int view : bad) {
            Calls.due("close " + view, engine.close(view), BAD);
        }
        engine.close(0);
        Calls.due("closed already", engine.close(0), BAD);
        Calls.due("open are", engine.told(3), 1);
    }

    private static void search() {
        Sentences.says("`int search(int view)`: The TAPE is a QUERY for a VIEW: how many HITS the ANSWER has;");
        SearchEngine engine = threeDocuments();
        Calls.due("two", Calls.ask(engine, 0, "cat"), 2);
        Calls.due("told", engine.told(4), 2);
        Calls.due("none", Calls.ask(engine, 0, "owl"), 0);
        Calls.due("told", engine.told(4), 0);
        engine.delete(1);
        engine.open();
        Calls.due("of the other view", Calls.ask(engine, 1, "cat"), 1);
        Calls.due("of the first view", Calls.ask(engine, 0, "cat"), 2);
    }

    private static void searchWrong() {
        Sentences.says("-10 less the place, if it is WRONG.");
        SearchEngine engine = threeDocuments();
        Calls.due("place 0", Calls.ask(engine, 0, ")"), -10);
        Calls.due("place 0 of nothing", Calls.ask(engine, 0, ""), -10);
        Calls.due("place 1", Calls.ask(engine, 0, "-)"), -11);
        Calls.due("place 599", Calls.ask(engine, 0, "a".repeat(599) + ")"), -609);
        Calls.due("place 600", Calls.ask(engine, 0, "a".repeat(599) + "("), -610);
    }

    private static void searchOfNoView() {
        Sentences.says("BAD: no such VIEW (that first).");
        SearchEngine engine = threeDocuments();
        int[] bad = {-1, 1, 3, 4, Integer.MIN_VALUE, Integer.MAX_VALUE};
        for (int view : bad) {
            Calls.due("search " + view, Calls.ask(engine, view, "cat"), BAD);
            Calls.due("search " + view + ", wrong", Calls.ask(engine, view, ")"), BAD);
            Calls.due("search " + view + " for nothing", engine.search(view), BAD);
        }
        engine.close(0);
        Calls.due("a closed one", Calls.ask(engine, 0, "cat"), BAD);
        Calls.due("a closed one, wrong", Calls.ask(engine, 0, ")"), BAD);
    }

    private static void key() {
        Sentences.says("`long key(int i)`: KEY of HIT i of the ANSWER;");
        SearchEngine engine = threeDocuments();
        // N 3. cat in title: DF 1, RARE 2, 42; in body DF 2, RARE 1, 6 and 7.
        Calls.dueHits(engine, "cat", "1=48 2=7");
        Calls.due("key 0", engine.key(0), 1);
        Calls.due("key 1", engine.key(1), 2);
        SearchEngine far = new SearchEngine(0);
        far.add(Long.MAX_VALUE, 0, 0);
        far.add(Long.MIN_VALUE, 0, 0);
        far.refresh();
        far.open();
        Calls.ask(far, 0, "-cat");
        Calls.due("least", far.key(0), Long.MIN_VALUE);
        Calls.due("greatest", far.key(1), Long.MAX_VALUE);
    }

    private static void noKey() {
        Sentences.says("0: none such.");
        SearchEngine engine = threeDocuments();
        Calls.due("without an answer", engine.key(0), 0);
        Calls.ask(engine, 0, "cat");
        Calls.due("key -1", engine.key(-1), 0);
        Calls.due("key 2", engine.key(2), 0);
        for (int i : FAR) {
            Calls.due("key " + i, engine.key(i), 0);
        }
    }

    private static void hit() {
        Sentences.says("`int hit(int i, int what)`: Of HIT i: what = 0 its score, 1 X, 2 Y, 3 LEN of its TITLE, 4 "
            + "of its BODY, 5 when it was added (from 0 on).");
        SearchEngine engine = new SearchEngine(2);
        engine.add(1, 0, 0);
        Calls.put(engine, 2, Integer.MIN_VALUE, Integer.MAX_VALUE, "the cat, the", "the end");
        Calls.put(engine, 1, Integer.MAX_VALUE, Integer.MIN_VALUE, "", "cat");
        engine.refresh();
        engine.open();
        Calls.ask(engine, 0, "cat");
        // N 2, DF 1 in both: RARE 2. 64 * 2 * 3 / 11 and 64 * 2 / 9.
        int[][] due = {{34, Integer.MIN_VALUE, Integer.MAX_VALUE, 3, 2, 1},
            {14, Integer.MAX_VALUE, Integer.MIN_VALUE, 0, 1, 2}};
        for (int i = 0; i < 2; i++) {
            for (int what = 0; what < 6; what++) {
                Calls.due("hit " + i + " " + what, engine.hit(i, what), due[i][what]);
            }
        }
        SearchEngine all = new SearchEngine(0);
        for (int i = 0; i < 400; i++) {
            all.add(i, 0, 0);
        }
        all.open();
        Calls.ask(all, 0, "-cat");
        Calls.due("the first", all.hit(0, 5), 0);
        Calls.due("the last", all.hit(399, 5), 399);
        Calls.due("its score", all.hit(399, 0), 0);
        Calls.due("behind the last", all.hit(400, 5), NONE);
    }

    private static void hitBadAndNone() {
        Sentences.says("BAD: another what; NONE: none such.");
        SearchEngine engine = threeDocuments();
        Calls.due("without an answer", engine.hit(0, 0), NONE);
        Calls.due("without an answer, another what", engine.hit(0, 6), BAD);
        Calls.ask(engine, 0, "cat");
        int[] bad = {-1, 6, 7, Integer.MIN_VALUE, Integer.MAX_VALUE};
        for (int what : bad) {
            Calls.due("what " + what, engine.hit(0, what), BAD);
            Calls.due("what " + what + " of none", engine.hit(2, what), BAD);
        }
        for (int what = 0; what < 6; what++) {
            Calls.due("hit -1", engine.hit(-1, what), NONE);
            Calls.due("hit 2", engine.hit(2, what), NONE);
            for (int i : FAR) {
                Calls.due("hit " + i, engine.hit(i, what), NONE);
            }
        }
    }

    private static SearchEngine numbers(int... numbers) {
        SearchEngine engine = new SearchEngine(0);
        for (int i = 0; i < numbers.length; i++) {
            engine.add(i, numbers[i], -1 - numbers[i]);
        }
        engine.refresh();
        engine.open();
        Calls.ask(engine, 0, "-cat");
        return engine;
    }

    private static void bucket() {
        Sentences.says("`int bucket(int what, int from, int width)`: How many HITS have X (what = 0), or Y (1), "
            + "from .. from + width - 1.");
        int most = Integer.MAX_VALUE;
        int least = Integer.MIN_VALUE;
        SearchEngine engine = numbers(least, least + 1, -1, 0, 0, 5, 6, most - 1, most);
        int[][] of = {{0, 1, 2}, {-1, 1, 1}, {-1, 2, 3}, {1, 4, 0}, {1, 5, 1}, {1, 6, 2}, {5, 1, 1}, {6, 1, 1},
            {7, 10, 0}, {4, 1, 0}, {least, 1, 1}, {least, 2, 2}, {least, most, 2}, {least + 1, most, 2},
            {least + 2, most, 3}, {0, most, 5}, {1, most, 4}, {most, 1, 1}, {most, 2, 1}, {most, most, 1},
            {most - 1, 1, 1}, {most - 1, 2, 2},
            {most - 1, most, 2}, {-1, most, 5}};
        for (int[] one : of) {
            Calls.due("bucket of x from " + one[0] + " of " + one[1], engine.bucket(0, one[0], one[1]), one[2]);
        }
        // Y is -1 less X: most, most - 1, 0, -1, -1, -6, -7, least + 1, least.
        Calls.due("bucket of y", engine.bucket(1, -1, 1), 2);
        Calls.due("bucket of y", engine.bucket(1, -7, 8), 5);
        Calls.due("bucket of y at the end", engine.bucket(1, most, most), 1);
        Calls.due("bucket of y at the start", engine.bucket(1, least, 2), 2);
        Calls.ask(engine, 0, "cat");
        Calls.due("without hits", engine.bucket(0, least, most), 0);
    }

    private static void bucketBad() {
        Sentences.says("BAD: what, or width is below 1.");
        SearchEngine engine = numbers(0);
        int[] whats = {-1, 2, 3, Integer.MIN_VALUE, Integer.MAX_VALUE};
        for (int what : whats) {
            Calls.due("what " + what, engine.bucket(what, 0, 1), BAD);
        }
        int[] widths = {0, -1, Integer.MIN_VALUE};
        for (int width : widths) {
            Calls.due("width " + width, engine.bucket(0, 0, width), BAD);
            Calls.due("width " + width, engine.bucket(1, 0, width), BAD);
            Calls.due("both", engine.bucket(2, 0, width), BAD);
        }
        Calls.due("width 1", engine.bucket(0, 0, 1), 1);
        Calls.due("without an answer", new SearchEngine(0).bucket(0, 0, 0), BAD);
    }

    private static void over() {
        Sentences.says("`long over(int what, int of)`: Of the HITS' X (what = 0), Y (1): the sum (of = 0), the "
            + "least (1), the greatest (2);");
        int most = Integer.MAX_VALUE;
        int least = Integer.MIN_VALUE;
        dueOver(numbers(5), 5, 5, 5, -6, -6, -6);
        dueOver(numbers(5, -7, 3), 1, -7, 5, -4, -6, 6);
        dueOver(numbers(-5, -7, -3), -15, -7, -3, 12, 2, 6);
        dueOver(numbers(most, most, most), 6442450941L, most, most, -6442450944L, least, least);
        dueOver(numbers(least, least, most), -2147483649L, least, most, 2147483646L, least, most);
        dueOver(numbers(0, 0), 0, 0, 0, -2, -1, -1);
        int[] many = new int[400];
        java.util.Arrays.fill(many, most);
        dueOver(numbers(many), 858993458800L, most, most, -858993459200L, least, least);
    }

    private static void dueOver(SearchEngine engine, long... due) {
        for (int i = 0; i < due.length; i++) {
            Calls.due("over " + i / 3 + " " + i % 3, engine.over(i / 3, i % 3), due[i]);
        }
    }

    private static void overWithoutHits() {
        Sentences.says("0 without HITS.");
        dueOver(new SearchEngine(0), 0, 0, 0, 0, 0, 0);
        SearchEngine engine = numbers(5, 6);
        Calls.ask(engine, 0, "cat");
        dueOver(engine, 0, 0, 0, 0, 0, 0);
    }

    private static void overBad() {
        Sentences.says("BAD: what, of.");
        SearchEngine engine = numbers(5, 6);
        int[] bad = {-1, 3, 4, Integer.MIN_VALUE, Integer.MAX_VALUE};
        for (int one : bad) {
            Calls.due("what " + one, engine.over(one, 0), BAD);
            Calls.due("of " + one, engine.over(0, one), BAD);
            Calls.due("both " + one, engine.over(one, one), BAD);
            Calls.due("without hits", new SearchEngine(0).over(0, one), BAD);
        }
        Calls.due("what 2", engine.over(2, 2), BAD);
    }

    private static void mark() {
        Sentences.says("`int mark(int i, int field, boolean length)`: The first TOKEN of a FIELD of HIT i whose "
            + "TERM is one of a WORD or PHRASE of the query, or begins as a WORD* of it,");
        SearchEngine engine = new SearchEngine(3);
        Calls.put(engine, 1, 0, 0, "owl", "Dogs and cats, cat; CATS dog owls the");
        engine.refresh();
        engine.open();
        dueMark(engine, "cat", 9, 4);
        dueMark(engine, "dog", 0, 4);
        dueMark(engine, "owl | cat", 9, 4);
        dueMark(engine, "cat owl dog", 0, 4);
        dueMark(engine, "\"cat dog\"", 0, 4);
        dueMark(engine, "\"owl cat\" | [x 0 0]", 9, 4);
        dueMark(engine, "\"the owl\"", 29, 4);
        dueMark(engine, "ca*", 9, 4);
        dueMark(engine, "cat*", 9, 4);
        dueMark(engine, "o*", 29, 4);
        dueMark(engine, "cats* | [x 0 0]", NONE, NONE);
        dueMark(engine, "[x 0 0]", NONE, NONE);
        dueMark(engine, "the", NONE, NONE);
        dueMark(engine, "elk | [x 0 0]", NONE, NONE);
        dueMark(engine, "an* | [x 0 0]", NONE, NONE);
        dueMark(engine, "(elk | (cat))^2", 9, 4);
        SearchEngine last = Calls.engineOf(0, "b".repeat(396) + " cat");
        dueMark(last, "cat", 397, 3);
    }

    private static void dueMark(SearchEngine engine, String query, int place, int length) {
        Calls.due("hits of " + query, Calls.ask(engine, 0, query), 1);
        Calls.due("place of " + query, engine.mark(0, BODY, false), place);
        Calls.due("length of " + query, engine.mark(0, BODY, true), length);
    }

    private static void markOfTheQuery() {
        Sentences.says("whose TERM is one of a WORD or PHRASE of the query,");
        SearchEngine engine = Calls.engineOf(1, "abcdefghijklmno cats cat");
        dueMark(engine, "abcdefghijklxyz", 0, 15);
        dueMark(engine, "cats", 16, 4);
        Calls.due("wrong", Calls.ask(engine, 0, "abc* ("), -16);
        Calls.due("that of the answer", engine.mark(0, BODY, false), 16);
        Calls.due("no view", Calls.ask(engine, 3, "abc*"), BAD);
        engine.close(0);
        Calls.due("that of the answer", engine.mark(0, BODY, false), 16);
    }

    private static void markBehindNot() {
        Sentences.says("that no - stands before (nor before a ( around it),");
        SearchEngine engine = Calls.engineOf(0, "cat dog owl");
        dueMark(engine, "owl | -cat", 8, 3);
        dueMark(engine, "owl | -\"cat dog\"", 8, 3);
        dueMark(engine, "owl | -c*", 8, 3);
        dueMark(engine, "owl | -(cat | dog)", 8, 3);
        dueMark(engine, "owl | -(elk (cat | (dog)))", 8, 3);
        dueMark(engine, "owl | -(-cat)", 8, 3);
        dueMark(engine, "owl | -(-(-(-(cat))))", 8, 3);
        dueMark(engine, "-(-cat)", NONE, NONE);
        dueMark(engine, "(-elk) dog", 4, 3);
        dueMark(engine, "-elk dog -ant", 4, 3);
        dueMark(engine, "-(elk) (dog | -cat)", 4, 3);
        dueMark(engine, "-cat | cat", 0, 3);
    }

    private static void markOfTheField() {
        Sentences.says("and whose FIELD, if told, is this one:");
        SearchEngine engine = new SearchEngine(0);
        Calls.put(engine, 1, 0, 0, "owl cat dog", "dog cat");
        engine.refresh();
        engine.open();
        dueMarks(engine, "cat", 4, 4);
        dueMarks(engine, "title:cat", 4, NONE);
        dueMarks(engine, "body:cat", NONE, 4);
        dueMarks(engine, "body:cat | title:dog", 8, 4);
        dueMarks(engine, "title:\"cat dog\" | cat", 4, 4);
        dueMarks(engine, "title:c* | body:d*", 4, 0);
        dueMarks(engine, "body:owl | title:dog", 8, NONE);
    }

    private static void dueMarks(SearchEngine engine, String query, int title, int body) {
        Calls.due("hits of " + query, Calls.ask(engine, 0, query), 1);
        Calls.due("title place of " + query, engine.mark(0, TITLE, false), title);
        Calls.due("body place of " + query, engine.mark(0, BODY, false), body);
    }

    private static void markPlaceAndLength() {
        Sentences.says("the place of its first byte, or (length) how many bytes it has.");
        SearchEngine engine = new SearchEngine(0);
        Calls.put(engine, 1, 0, 0, "  abcdefghijklmnopqrst", "\u00e9\0!" + "x".repeat(397));
        engine.refresh();
        engine.open();
        Calls.ask(engine, 0, "a* x*");
        Calls.due("title place", engine.mark(0, TITLE, false), 2);
        Calls.due("title length, all bytes", engine.mark(0, TITLE, true), 20);
        Calls.due("body place", engine.mark(0, BODY, false), 3);
        Calls.due("body length", engine.mark(0, BODY, true), 397);
        Calls.put(engine, 2, 0, 0, "t".repeat(97) + " at", "");
        engine.refresh();
        engine.open();
        Calls.ask(engine, 1, "at");
        Calls.due("the end of the title", engine.mark(0, TITLE, false), 98);
    }

    private static void markBadAndNone() {
        Sentences.says("BAD: field; NONE: no such HIT, or none.");
        SearchEngine engine = threeDocuments();
        Calls.due("without an answer", engine.mark(0, 0, false), NONE);
        Calls.due("without an answer, no field", engine.mark(0, 2, false), BAD);
        Calls.ask(engine, 0, "cat");
        int[] bad = {-1, 2, 3, Integer.MIN_VALUE, Integer.MAX_VALUE};
        for (int field : bad) {
            Calls.due("field " + field, engine.mark(0, field, false), BAD);
            Calls.due("field " + field + " of no hit", engine.mark(2, field, true), BAD);
        }
        Calls.due("hit -1", engine.mark(-1, BODY, false), NONE);
        Calls.due("hit 2", engine.mark(2, BODY, true), NONE);
        for (int i : FAR) {
            Calls.due("hit " + i, engine.mark(i, BODY, false), NONE);
        }
        Calls.due("none in an empty title", engine.mark(1, TITLE, false), NONE);
        Calls.due("none in an empty title", engine.mark(1, TITLE, true), NONE);
    }

    private static void dueNear(SearchEngine engine, String word, int edits, String nearest) {
        Calls.due("near " + word, Calls.near(engine, 0, word), edits);
        Calls.dueText("nearest to " + word, Calls.nearest(engine), nearest);
    }

    private static void nearIsAWord() {
        Sentences.says("`int near(int view)`: The TAPE is a WORD (else BAD):");
        SearchEngine engine = Calls.engineOf(0, "cat");
        String[] bad = {"", " ", "cat ", " cat", "cat cat", "cat*", "\"cat\"", "cat!", "\0", "cat\0",
            "ca\u00e9", "-cat"};
        for (String word : bad) {
            Calls.due("near " + word, Calls.near(engine, 0, word), BAD);
        }
        Calls.due("none is the near one", engine.nearByte(-1), NONE);
        Calls.due("letters", Calls.near(engine, 0, "Cat"), 0);
        Calls.due("digits", Calls.near(engine, 0, "1at"), 1);
        Calls.due("600 bytes", Calls.near(engine, 0, "cat".repeat(200)), NONE);
    }

    private static void nearOfTheDead() {
        Sentences.says("of the TERMS that documents of a VIEW, also the DEAD, have in BODY:");
        SearchEngine engine = new SearchEngine(3);
        Calls.put(engine, 1, 0, 0, "house", "cats");
        Calls.put(engine, 2, 0, 0, "", "the lion");
        engine.refresh();
        engine.delete(1);
        engine.open();
        Calls.put(engine, 3, "tiger");
        engine.refresh();
        dueNear(engine, "cat", 0, "cat");
        dueNear(engine, "lions", 1, "lion");
        Calls.due("not of a title", Calls.near(engine, 0, "house"), NONE);
        Calls.due("not of what came later", Calls.near(engine, 0, "tiger"), NONE);
        Calls.due("no stop is a term", Calls.near(engine, 0, "then"), NONE);
        engine.open();
        Calls.due("of the second view", Calls.near(engine, 1, "tiger"), 0);
    }

    private static void nearLeastEdits() {
        Sentences.says("the one with the least EDITS (a byte put in, left out, or changed)");
        SearchEngine engine = Calls.engineOf(0, "catfish", "elephant", "12345678", "k");
        dueNear(engine, "catfish", 0, "catfish");
        dueNear(engine, "catfiish", 1, "catfish");
        dueNear(engine, "xcatfish", 1, "catfish");
        dueNear(engine, "catfishx", 1, "catfish");
        dueNear(engine, "atfish", 1, "catfish");
        dueNear(engine, "catfis", 1, "catfish");
        dueNear(engine, "catish", 1, "catfish");
        dueNear(engine, "catfxsh", 1, "catfish");
        dueNear(engine, "xatfisx", 2, "catfish");
        dueNear(engine, "catfihs", 2, "catfish");
        dueNear(engine, "atfishx", 2, "catfish");
        dueNear(engine, "catfishxx", 2, "catfish");
        dueNear(engine, "tfish", 2, "catfish");
        dueNear(engine, "02345679", 2, "12345678");
        dueNear(engine, "x", 1, "k");
        dueNear(engine, "xkx", 2, "k");
        SearchEngine least = Calls.engineOf(0, "cat cat cbt", "cat cot", "cat");
        dueNear(least, "cbt", 0, "cbt");
        dueNear(least, "cott", 1, "cot");
    }

    private static void nearCutAndSmall() {
        Sentences.says("from its letters small, its first 12 bytes;");
        SearchEngine engine = Calls.engineOf(3, "abcdefghijklmn", "cats", "then");
        dueNear(engine, "ABCDEFGHIJKL", 0, "abcdefghijkl");
        dueNear(engine, "abcdefghijklzzzzzzzz", 0, "abcdefghijkl");
        dueNear(engine, "abcdefghijkzl", 1, "abcdefghijkl");
        dueNear(engine, "abcdefghij", 2, "abcdefghijkl");
        // No s goes of the WORD, and a stop is a WORD.
        dueNear(engine, "cats", 1, "cat");
        dueNear(engine, "CAT", 0, "cat");
        dueNear(engine, "the", 1, "then");
    }

    private static void nearGreatestFrequency() {
        Sentences.says("of these that with the greatest DF in BODY,");
        SearchEngine engine = new SearchEngine(0);
        Calls.put(engine, 1, 0, 0, "bat bat", "bat bat bat cat");
        Calls.put(engine, 2, 0, 0, "bat", "cat");
        Calls.put(engine, 3, 0, 0, "bat", "owl rats");
        engine.refresh();
        engine.open();
        dueNear(engine, "rat", 1, "cat");
        dueNear(engine, "at", 1, "cat");
        engine.delete(1);
        engine.delete(2);
        engine.open();
        Calls.due("the dead count", Calls.near(engine, 1, "rat"), 1);
        Calls.dueText("the dead count", Calls.nearest(engine), "cat");
        Calls.put(engine, 4, "rats");
        Calls.put(engine, 5, "rats");
        engine.refresh();
        engine.open();
        Calls.due("over two segments", Calls.near(engine, 2, "rat"), 1);
        Calls.dueText("over two segments", Calls.nearest(engine), "rats");
        dueNear(engine, "rat", 1, "cat");
        SearchEngine parts = Calls.engineOf(0, "cat", "cat");
        Calls.put(parts, 3, "bat");
        parts.refresh();
        parts.open();
        Calls.due("a lesser one of a later segment", Calls.near(parts, 1, "rat"), 1);
        Calls.dueText("a lesser one of a later segment", Calls.nearest(parts), "cat");
    }

    private static void nearLeastByBytes() {
        Sentences.says("then the least by bytes (one that another one begins with first):");
        SearchEngine engine = Calls.engineOf(0, "zat bat cat 9at");
        dueNear(engine, "rat", 1, "9at");
        dueNear(engine, "bt", 1, "bat");
        dueNear(Calls.engineOf(0, "catss cats"), "catsx", 1, "cats");
        dueNear(Calls.engineOf(0, "cats catss"), "catsx", 1, "cats");
        dueNear(Calls.engineOf(0, "cat0 cat"), "catx", 1, "cat");
        dueNear(Calls.engineOf(0, "ab b", "b ab"), "a", 1, "ab");
    }

    private static void nearTwoAtMost() {
        Sentences.says("its EDITS, if they are 2 at most; it is THE NEAR one then.");
        SearchEngine engine = Calls.engineOf(0, "catfish", "k");
        dueNear(engine, "catfish", 0, "catfish");
        dueNear(engine, "l", 1, "k");
        dueNear(engine, "xxtfish", 2, "catfish");
        dueNear(engine, "l", 1, "k");
        Calls.due("three changed", Calls.near(engine, 0, "xxxfish"), NONE);
        Calls.due("three put in", Calls.near(engine, 0, "catfishxxx"), NONE);
        Calls.due("three left out", Calls.near(engine, 0, "fish"), NONE);
        Calls.due("four changed", Calls.near(engine, 0, "xxxxish"), NONE);
        Calls.dueText("the near one stays", Calls.nearest(engine), "k");
        dueNear(engine, "xy", 2, "k");
        Calls.due("one changed and two put in", Calls.near(Calls.engineOf(0, "abc"), 0, "x"), NONE);
        Calls.due("one changed and two left out", Calls.near(Calls.engineOf(0, "x"), 0, "abc"), NONE);
        Calls.due("two put in", Calls.near(Calls.engineOf(0, "abc"), 0, "b"), 2);
    }

    private static void nearNone() {
        Sentences.says("NONE: there is none.");
        SearchEngine engine = new SearchEngine(0);
        engine.open();
        Calls.due("a view without documents", Calls.near(engine, 0, "a"), NONE);
        engine.add(1, 0, 0);
        Calls.put(engine, 2, 0, 0, "a", "");
        engine.refresh();
        engine.open();
        Calls.due("documents without a body", Calls.near(engine, 1, "a"), NONE);
        Calls.due("there is no near one", engine.nearByte(-1), NONE);
    }

    private static void nearBad() {
        Sentences.says("BAD: no such VIEW, too.");
        SearchEngine engine = Calls.engineOf(0, "cat");
        int[] bad = {-1, 1, 3, 4, Integer.MIN_VALUE, Integer.MAX_VALUE};
        for (int view : bad) {
            Calls.due("near " + view, Calls.near(engine, view, "cat"), BAD);
            Calls.due("near " + view + ", no word", Calls.near(engine, view, "cat!"), BAD);
        }
        engine.close(0);
        Calls.due("a closed one", Calls.near(engine, 0, "cat"), BAD);
    }

    private static void nearByte() {
        Sentences.says("`int nearByte(int i)`: Byte i of THE NEAR one, the latest that was found (-1: how many).");
        SearchEngine engine = Calls.engineOf(0, "Abcdefghi09zyxw", "k");
        Calls.near(engine, 0, "abcdefghi09z");
        Calls.due("how many", engine.nearByte(-1), 12);
        String due = "abcdefghi09z";
        for (int i = 0; i < 12; i++) {
            Calls.due("byte " + i, engine.nearByte(i), due.charAt(i));
        }
        Calls.near(engine, 0, "k");
        Calls.due("the latest", engine.nearByte(-1), 1);
        Calls.due("its byte", engine.nearByte(0), 'k');
        Calls.near(engine, 0, "elephant");
        Calls.near(engine, 0, "k!");
        Calls.near(engine, 3, "abcdefghi09z");
        Calls.due("found, not looked for", engine.nearByte(0), 'k');
        engine.close(0);
        engine.delete(2);
        Calls.due("it stays", engine.nearByte(0), 'k');
    }

    private static void nearByteNone() {
        Sentences.says("(-1: how many). NONE.");
        SearchEngine engine = Calls.engineOf(0, "abcdefghijkl", "cat");
        Calls.due("none was found", engine.nearByte(-1), NONE);
        Calls.due("none was found", engine.nearByte(0), NONE);
        Calls.near(engine, 0, "cat");
        Calls.due("the last", engine.nearByte(2), 't');
        Calls.due("behind the last", engine.nearByte(3), NONE);
        Calls.due("behind the last", engine.nearByte(11), NONE);
        Calls.due("before the first", engine.nearByte(-2), NONE);
        for (int i : FAR) {
            Calls.due("byte " + i, engine.nearByte(i), NONE);
        }
        Calls.near(engine, 0, "abcdefghijkl");
        Calls.due("the twelfth", engine.nearByte(11), 'l');
        Calls.due("a thirteenth", engine.nearByte(12), NONE);
    }

    private static void segment() {
        Sentences.says("`int segment(int s, int what)`: SEGMENT s: what = 0 its LEVEL, 1 documents, 2 those of them "
            + "that are deleted, 3 different TERMS in TITLE, 4 in BODY.");
        SearchEngine engine = new SearchEngine(3);
        Calls.put(engine, 1, 0, 0, "cat cats the", "a b1 c2 b1");
        Calls.put(engine, 2, 0, 0, "dog CAT", "B1 dog");
        engine.refresh();
        Calls.put(engine, 3, 0, 0, "the", "");
        engine.refresh();
        dueSegment(engine, 0, 0, 2, 0, 2, 3);
        dueSegment(engine, 1, 0, 1, 0, 0, 0);
        engine.delete(1);
        dueSegment(engine, 0, 0, 2, 1, 2, 3);
        engine.delete(2);
        dueSegment(engine, 0, 0, 2, 2, 2, 3);
        engine.add(4, 0, 0);
        engine.refresh();
        Calls.put(engine, 5, "elk");
        engine.refresh();
        dueSegment(engine, 0, 1, 3, 0, 0, 1);
        StringBuilder words = new StringBuilder();
        for (char c = 'a'; c <= 'z'; c++) {
            for (char d = '0'; d <= '3'; d++) {
                words.append(c).append(d).append(' ');
            }
        }
        SearchEngine many = Calls.engineOf(0, words.toString(), words.toString().toUpperCase(java.util.Locale.ROOT));
        dueSegment(many, 0, 0, 2, 0, 0, 104);
    }

    private static void dueSegment(SearchEngine engine, int s, int... due) {
        for (int what = 0; what < due.length; what++) {
            Calls.due("segment " + s + " " + what, engine.segment(s, what), due[what]);
        }
    }

    private static void segmentBadAndNone() {
        Sentences.says("BAD: what; NONE: none such.");
        SearchEngine engine = threeDocuments();
        int[] bad = {-1, 5, 6, Integer.MIN_VALUE, Integer.MAX_VALUE};
        for (int what : bad) {
            Calls.due("what " + what, engine.segment(0, what), BAD);
            Calls.due("what " + what + " of none", engine.segment(1, what), BAD);
        }
        Calls.due("segment -1", engine.segment(-1, 0), NONE);
        Calls.due("segment 1", engine.segment(1, 0), NONE);
        for (int s : FAR) {
            Calls.due("segment " + s, engine.segment(s, 4), NONE);
        }
        for (int i = 0; i < 3; i++) {
            engine.add(10 + i, 0, 0);
            engine.refresh();
        }
        Calls.due("merged", engine.segment(0, 1), 6);
        Calls.due("gone", engine.segment(1, 0), NONE);
        Calls.due("gone", engine.segment(3, 0), NONE);
    }

    private static void view() {
        Sentences.says("`int view(int view, int what)`: Of a VIEW: what = 0 SEGMENTS, 1 N, 2 those that are not DEAD.");
        SearchEngine engine = threeDocuments();
        engine.add(4, 0, 0);
        engine.refresh();
        engine.delete(4);
        engine.delete(1);
        engine.open();
        engine.delete(2);
        int[][] due = {{1, 3, 3}, {2, 4, 2}};
        for (int view = 0; view < 2; view++) {
            for (int what = 0; what < 3; what++) {
                Calls.due("view " + view + " " + what, engine.view(view, what), due[view][what]);
            }
        }
        SearchEngine all = new SearchEngine(0);
        for (int i = 0; i < 400; i++) {
            all.add(i, 0, 0);
        }
        all.open();
        Calls.due("400", all.view(0, 1), 400);
        Calls.due("400", all.view(0, 2), 400);
    }

    private static void viewBad() {
        Sentences.says("BAD: what, no such VIEW.");
        SearchEngine engine = threeDocuments();
        int[] bad = {-1, 3, 4, Integer.MIN_VALUE, Integer.MAX_VALUE};
        for (int one : bad) {
            Calls.due("what " + one, engine.view(0, one), BAD);
            Calls.due("view " + one, engine.view(one, 0), BAD);
            Calls.due("both " + one, engine.view(one, one), BAD);
        }
        Calls.due("not open", engine.view(1, 0), BAD);
        engine.close(0);
        Calls.due("closed", engine.view(0, 0), BAD);
    }

    private static void frequency() {
        Sentences.says("`int frequency(int view, int field)`: DF of the TAPE (a WORD without a TERM: 0) in a FIELD "
            + "of a VIEW.");
        SearchEngine engine = new SearchEngine(3);
        Calls.put(engine, 1, 0, 0, "cat cats", "dog Dogs dog the");
        Calls.put(engine, 2, 0, 0, "the", "dogs");
        engine.refresh();
        Calls.put(engine, 3, 0, 0, "dog", "dog abcdefghijklm");
        engine.refresh();
        engine.delete(2);
        engine.open();
        Calls.put(engine, 4, "dog");
        Calls.due("in body, how often in one counts for nothing", Calls.frequency(engine, 0, BODY, "DOGS"), 3);
        Calls.due("in title", Calls.frequency(engine, 0, TITLE, "dog"), 1);
        Calls.due("in title", Calls.frequency(engine, 0, TITLE, "cats"), 1);
        Calls.due("nowhere", Calls.frequency(engine, 0, BODY, "cat"), 0);
        Calls.due("no beginning", Calls.frequency(engine, 0, BODY, "do"), 0);
        Calls.due("without a term", Calls.frequency(engine, 0, BODY, "the"), 0);
        Calls.due("without a term", Calls.frequency(engine, 0, TITLE, "THES"), 0);
        Calls.due("the first 12 bytes", Calls.frequency(engine, 0, BODY, "abcdefghijklxyz"), 1);
        Calls.due("600 bytes", Calls.frequency(engine, 0, BODY, "a".repeat(600)), 0);
        SearchEngine all = new SearchEngine(0);
        for (int i = 0; i < 200; i++) {
            Calls.put(all, i, "cat");
        }
        all.refresh();
        all.open();
        Calls.due("all", Calls.frequency(all, 0, BODY, "cat"), 200);
    }

    private static void frequencyBad() {
        Sentences.says("BAD: field, no such VIEW, no WORD.");
        SearchEngine engine = Calls.engineOf(0, "cat");
        int[] bad = {-1, 2, 4, Integer.MIN_VALUE, Integer.MAX_VALUE};
        for (int one : bad) {
            Calls.due("field " + one, Calls.frequency(engine, 0, one, "cat"), BAD);
            Calls.due("view " + one, Calls.frequency(engine, one, BODY, "cat"), BAD);
        }
        Calls.due("not open", Calls.frequency(engine, 1, BODY, "cat"), BAD);
        String[] words = {"", " ", "cat ", " cat", "cat dog", "cat*", "title:cat", "cat\0", "\u00e9", "-cat"};
        for (String word : words) {
            Calls.due("of " + word, Calls.frequency(engine, 0, BODY, word), BAD);
        }
        engine.close(0);
        Calls.due("closed", Calls.frequency(engine, 0, BODY, "cat"), BAD);
    }

    private static void told() {
        Sentences.says("`int told(int what)`: What = 0 documents added, 1 in the BUFFER that are not deleted, 2 "
            + "SEGMENTS, 3 VIEWS open, 4 HITS,");
        SearchEngine engine = new SearchEngine(0);
        for (int i = 0; i < 5 * 16; i++) {
            engine.add(i, 0, 0);
        }
        engine.add(80, 0, 0);
        engine.add(81, 0, 0);
        engine.add(80, 0, 0);
        engine.delete(81);
        engine.delete(0);
        engine.open();
        engine.open();
        engine.close(0);
        Calls.ask(engine, 1, "[x 0 0]");
        int[] due = {83, 1, 2, 1, 79, 1, 1};
        for (int what = 0; what < due.length; what++) {
            Calls.due("told " + what, engine.told(what), due[what]);
        }
    }

    private static void toldAnswer() {
        Sentences.says("5 the VIEW of the ANSWER (NONE: there was none), 6 merges so far.");
        SearchEngine engine = Calls.engineOf(0, "cat");
        engine.open();
        engine.open();
        Calls.due("none", engine.told(5), NONE);
        Calls.ask(engine, 0, "cat)");
        Calls.due("none behind a wrong one", engine.told(5), NONE);
        Calls.ask(engine, 3, "cat");
        Calls.due("none behind a bad one", engine.told(5), NONE);
        Calls.ask(engine, 2, "dog");
        Calls.due("without hits", engine.told(5), 2);
        Calls.ask(engine, 0, "cat");
        Calls.due("the next", engine.told(5), 0);
        Calls.ask(engine, 1, "(");
        Calls.due("the same behind a wrong one", engine.told(5), 0);
        engine.close(0);
        Calls.due("the same when closed", engine.told(5), 0);
        int[] merges = {0, 0, 1, 1, 1, 1, 2, 2, 2, 2, 3, 3, 3, 3, 5, 5};
        for (int i = 0; i < merges.length; i++) {
            engine.add(10 + i, 0, 0);
            engine.refresh();
            Calls.due("merges", engine.told(6), merges[i]);
        }
    }

    private static void toldBad() {
        Sentences.says("6 merges so far. BAD.");
        SearchEngine engine = new SearchEngine(0);
        int[] bad = {-1, 7, 8, Integer.MIN_VALUE, Integer.MAX_VALUE};
        for (int what : bad) {
            Calls.due("told " + what, engine.told(what), BAD);
        }
    }

    private static void lastCalls() {
        Sentences.says("An object is used for at most 512 calls after it has been made; what later calls answer is "
            + "free.");
        SearchEngine engine = new SearchEngine(0);
        for (int call = 1; call <= 508; call++) {
            Calls.due("call " + call, engine.add(call, 0, 0), call <= 400 ? call : FULL);
        }
        Calls.due("call 509", engine.open(), 0);
        Calls.due("call 510", engine.feed(0x2d61000000000000L, 0, 2), 2);
        Calls.due("call 511", engine.search(0), 400);
        Calls.due("call 512", engine.key(399), 400);
    }
}
