/** One part for each promise of the document: ordinary calls, the edges that it names, and wrong calls. */
public final class PromisesTest {
    private static final int NONE = SearchEngine.NONE;
    private static final int BAD = SearchEngine.BAD;
    private static final int FULL = SearchEngine.FULL;
    private static final int TITLE = 0;
    private static final int BODY = 1;

    public static void main(String[] args) {
        newObject();
        stemsAndStops();
        feed();
        add();
        addFull();
        addReplaces();
        addFillsTheBuffer();
        delete();
        refresh();
        refreshMerges();
        refreshKeepsManySegments();
        openAndClose();
        searchOfAView();
        wordScores();
        beginnings();
        phrases();
        ranges();
        groups();
        wrongQueries();
        wrongQueriesAtTheLimits();
        key();
        hit();
        bucketAndOver();
        mark();
        near();
        segment();
        view();
        frequency();
        told();
        Calls.end("PromisesTest");
    }

    // Promise 1
    private static void newObject() {
        Calls.due("NONE", NONE, -1);
        Calls.due("BAD", BAD, -2);
        Calls.due("FULL", FULL, -3);
        SearchEngine engine = new SearchEngine(0);
        int[] told = {0, 0, 0, 0, 0, NONE, 0};
        for (int what = 0; what < told.length; what++) {
            Calls.due("new told " + what, engine.told(what), told[what]);
        }
        Calls.due("new nearByte", engine.nearByte(-1), NONE);
        Calls.due("new nearByte", engine.nearByte(0), NONE);
        Calls.due("new segment", engine.segment(0, 0), NONE);
        Calls.due("new view", engine.view(0, 0), BAD);
        Calls.due("new key", engine.key(0), 0);
        Calls.due("new hit", engine.hit(0, 0), NONE);
        Calls.due("new mark", engine.mark(0, 0, false), NONE);
        Calls.due("new bucket", engine.bucket(0, 0, 1), 0);
        for (int of = 0; of < 3; of++) {
            Calls.due("new over", engine.over(0, of), 0);
        }
        Calls.due("new delete", engine.delete(0), false);
        Calls.due("new refresh", engine.refresh(), 0);
        Calls.due("new open", engine.open(), 0);
        Calls.due("empty view", engine.view(0, 0), 0);
        Calls.due("empty view", engine.view(0, 1), 0);
    }

    private static void stemsAndStops() {
        String body = "Cats the glass bus as1s ands THES its abcdefghijksxyz";
        int[] hows = {0, 1, 2, 3, 4, -1};
        String[] words = {"cat", "cats", "the", "glas", "bu", "as1", "ands", "and", "thes", "its", "abcdefghijk"};
        String[] due = new String[hows.length];
        // how:           cat cats the glas bu as1 ands and thes its abcdefghijk
        due[0] = bits(0, 1, 1, 0, 0, 0, 1, 0, 1, 1, 0);
        due[1] = bits(1, 1, 1, 0, 0, 1, 1, 1, 1, 1, 1);
        due[2] = bits(0, 1, 0, 0, 0, 0, 1, 0, 1, 1, 0);
        due[3] = bits(1, 1, 0, 0, 0, 1, 0, 0, 0, 1, 1);
        due[4] = due[0];
        due[5] = due[3];
        for (int h = 0; h < hows.length; h++) {
            SearchEngine engine = Calls.engineOf(hows[h], body);
            StringBuilder got = new StringBuilder();
            for (String word : words) {
                got.append(Calls.frequency(engine, 0, BODY, word));
            }
            Calls.dueText("how " + hows[h], got.toString(), due[h]);
        }
        SearchEngine signs = Calls.engineOf(0, "@AZ[`az{/09:", "AZ az 09 bY Z");
        Calls.due("great and small letters", Calls.frequency(signs, 0, BODY, "aZ"), 2);
        Calls.due("digits", Calls.frequency(signs, 0, BODY, "09"), 2);
        Calls.ask(signs, 0, "09");
        Calls.due("tokens", signs.hit(0, 4), 3);
        SearchEngine all = Calls.engineOf(2, "a an and in is it of on or the to b");
        Calls.due("stops are no terms", all.segment(0, 4), 1);
        Calls.ask(all, 0, "b");
        Calls.due("stops are tokens", all.hit(0, 4), 12);
        SearchEngine none = Calls.engineOf(1, "a an and in is it of on or the to b");
        Calls.due("no stops", none.segment(0, 4), 12);
    }

    private static String bits(int... bits) {
        StringBuilder text = new StringBuilder();
        for (int bit : bits) {
            text.append(bit);
        }
        return text.toString();
    }

    // Promise 2
    private static void feed() {
        SearchEngine engine = new SearchEngine(0);
        Calls.due("feed 0", engine.feed(0, 0, 0), BAD);
        Calls.due("feed 17", engine.feed(0, 0, 17), BAD);
        Calls.due("feed -1", engine.feed(0, 0, -1), BAD);
        Calls.due("feed least", engine.feed(0, 0, Integer.MIN_VALUE), BAD);
        Calls.due("feed greatest", engine.feed(0, 0, Integer.MAX_VALUE), BAD);
        Calls.due("feed 1", engine.feed(0x6162636465666768L, 0x696a6b6c6d6e6f70L, 1), 1);
        Calls.due("feed 9", engine.feed(0x6263646566676869L, 0x6a6a6b6c6d6e6f70L, 9), 10);
        Calls.due("no body", engine.add(1, 0, 0), 1);
        engine.refresh();
        engine.open();
        Calls.due("fed bytes", Calls.frequency(engine, 0, TITLE, "abcdefghij"), 1);
        for (int i = 1; i <= 37; i++) {
            Calls.due("feed 16", engine.feed(0x6161616161616161L, 0x6161616161616161L, 16), 16 * i);
        }
        Calls.due("feed over 600", engine.feed(0, 0, 9), FULL);
        Calls.due("feed over 600", engine.feed(0, 0, 16), FULL);
        Calls.due("wrong and over 600", engine.feed(0, 0, 17), BAD);
        Calls.due("feed to 600", engine.feed(0x2020202020202021L, 0, 8), 600);
        Calls.due("feed over 600", engine.feed(0, 0, 1), FULL);
        Calls.due("the last byte of 600", engine.search(0), -10 - 599);
        Calls.due("tape is used up", engine.feed(0, 0, 1), 1);
    }

    // Promise 3
    private static void add() {
        SearchEngine engine = new SearchEngine(0);
        String title = "t".repeat(99) + "!";
        String body = "b".repeat(398) + "!b";
        Calls.due("longest", Calls.put(engine, 1, 0, 0, title, body), 1);
        Calls.due("longer title", Calls.put(engine, 2, 0, 0, title + "x", ""), BAD);
        Calls.due("longer body", Calls.put(engine, 2, 0, 0, "", body + "x"), BAD);
        Calls.due("refused ones change nothing", engine.told(0), 1);
        Calls.due("an empty one", engine.add(2, 0, 0), 2);
        Calls.say(engine, "title alone");
        Calls.due("title alone", engine.add(3, 0, 0), 3);
        Calls.say(engine, "x".repeat(101));
        Calls.due("title alone, longer", engine.add(4, 0, 0), BAD);
        Calls.due("more zeros", Calls.put(engine, 4, 0, 0, "one", "two\0three"), 4);
        engine.refresh();
        engine.open();
        Calls.due("one in title", Calls.frequency(engine, 0, TITLE, "one"), 1);
        Calls.due("two in body", Calls.frequency(engine, 0, BODY, "two"), 1);
        Calls.due("three in body", Calls.frequency(engine, 0, BODY, "three"), 1);
        Calls.due("alone in title", Calls.frequency(engine, 0, TITLE, "alone"), 1);
        Calls.due("alone not in body", Calls.frequency(engine, 0, BODY, "alone"), 0);
        Calls.dueHits(engine, "[x 0 0]", "1=0 2=0 3=0 4=0");
        Calls.due("tokens", engine.hit(0, 4), 2);
        Calls.due("no tokens", engine.hit(1, 3), 0);
    }

    private static void addFull() {
        SearchEngine engine = new SearchEngine(0);
        for (int i = 0; i < 400; i++) {
            Calls.due("add", engine.add(i + 1, 0, 0), i + 1);
        }
        Calls.due("one more than 400", Calls.put(engine, 1, 0, 0, "x", ""), FULL);
        Calls.due("too long before full", Calls.put(engine, 1, 0, 0, "t".repeat(101), ""), BAD);
        Calls.due("nothing was deleted", engine.delete(1), true);
        Calls.due("tape is used up", engine.feed(0, 0, 1), 1);
    }

    private static void addReplaces() {
        SearchEngine engine = new SearchEngine(0);
        Calls.put(engine, 5, "old");
        Calls.put(engine, 5, "new");
        Calls.due("one is left in the buffer", engine.told(1), 1);
        engine.refresh();
        Calls.due("one document", engine.segment(0, 1), 1);
        Calls.put(engine, 5, "newest");
        Calls.due("one in the segment is deleted", engine.segment(0, 2), 1);
        engine.refresh();
        engine.open();
        Calls.dueHits(engine, "new*", "5=16");
        Calls.due("the newest", engine.hit(0, 5), 2);
    }

    private static void addFillsTheBuffer() {
        SearchEngine engine = new SearchEngine(0);
        for (int i = 0; i < 15; i++) {
            engine.add(i, 0, 0);
        }
        engine.delete(0);
        engine.add(15, 0, 0);
        Calls.due("15 that are not deleted", engine.told(1), 15);
        Calls.due("no segment yet", engine.told(2), 0);
        engine.add(16, 0, 0);
        Calls.due("the buffer is empty", engine.told(1), 0);
        Calls.due("a segment", engine.told(2), 1);
        Calls.due("of 16", engine.segment(0, 1), 16);
        for (int i = 17; i < 65; i++) {
            engine.add(i, 0, 0);
        }
        Calls.due("four are merged", engine.told(2), 1);
        Calls.due("of level 1", engine.segment(0, 0), 1);
        Calls.due("of 64", engine.segment(0, 1), 64);
    }

    // Promise 4
    private static void delete() {
        SearchEngine engine = new SearchEngine(0);
        Calls.put(engine, Long.MIN_VALUE, "a");
        Calls.due("another key", engine.delete(Long.MAX_VALUE), false);
        Calls.due("in the buffer", engine.delete(Long.MIN_VALUE), true);
        Calls.due("once", engine.delete(Long.MIN_VALUE), false);
        Calls.due("nothing to refresh", engine.refresh(), 0);
        Calls.put(engine, 7, "a");
        engine.refresh();
        Calls.due("in a segment", engine.delete(7), true);
        Calls.due("once", engine.delete(7), false);
        Calls.due("it stays", engine.segment(0, 1), 1);
        Calls.due("deleted", engine.segment(0, 2), 1);
    }

    // Promise 5
    private static void refresh() {
        SearchEngine engine = new SearchEngine(0);
        Calls.due("nothing", engine.refresh(), 0);
        Calls.put(engine, 1, "a");
        Calls.put(engine, 2, "b");
        engine.delete(1);
        Calls.due("one", engine.refresh(), 1);
        Calls.due("the buffer is empty", engine.told(1), 0);
        Calls.due("without the deleted", engine.segment(0, 1), 1);
        Calls.due("again", engine.refresh(), 1);
        Calls.put(engine, 3, "c");
        Calls.due("behind all others", engine.refresh(), 2);
        engine.delete(2);
        Calls.due("the first one's", engine.segment(0, 2), 1);
        Calls.due("not the second one's", engine.segment(1, 2), 0);
    }

    private static void refreshMerges() {
        SearchEngine engine = new SearchEngine(0);
        int[] segments = {1, 2, 3, 1, 2, 3, 4, 2, 3, 4, 5, 3, 4, 5, 6, 1};
        for (int i = 0; i < segments.length; i++) {
            Calls.put(engine, i, "word" + i);
            if (i == 13) {
                engine.delete(2);
                engine.delete(12);
            }
            Calls.due("refresh " + i, engine.refresh(), segments[i]);
        }
        Calls.due("level", engine.segment(0, 0), 2);
        Calls.due("documents", engine.segment(0, 1), 14);
        Calls.due("deleted", engine.segment(0, 2), 0);
        Calls.due("terms", engine.segment(0, 4), 14);
        Calls.due("merges", engine.told(6), 5);
        engine.open();
        Calls.ask(engine, 0, "[x 0 0]");
        Calls.due("hits", engine.told(4), 14);
        Calls.due("the last", engine.hit(13, 5), 15);
        for (int i = 0; i < 3; i++) {
            engine.delete(engine.key(i));
            Calls.put(engine, 100 + i, "more");
            engine.refresh();
        }
        Calls.due("not merged: deleted ones stay", engine.segment(0, 2), 3);
        Calls.put(engine, 103, "more");
        Calls.due("in the place of the first", engine.refresh(), 2);
        Calls.due("level 2", engine.segment(0, 0), 2);
        Calls.due("level 1", engine.segment(1, 0), 1);
    }

    private static void refreshKeepsManySegments() {
        SearchEngine engine = new SearchEngine(0);
        for (int i = 0; i < 63; i++) {
            engine.add(i, 0, 0);
            engine.refresh();
        }
        Calls.due("three of each level", engine.told(2), 9);
        for (int s = 0; s < 9; s++) {
            Calls.due("level of " + s, engine.segment(s, 0), 2 - s / 3);
            Calls.due("documents of " + s, engine.segment(s, 1), 1L << (2 * (2 - s / 3)));
        }
        engine.open();
        Calls.due("a view of all segments", engine.view(0, 0), 9);
        Calls.due("a view of all documents", engine.view(0, 1), 63);
        engine.add(63, 0, 0);
        Calls.due("all are merged", engine.refresh(), 1);
        Calls.due("to level 3", engine.segment(0, 0), 3);
        Calls.due("merges", engine.told(6), 16 + 4 + 1);
        Calls.due("the view stays", engine.view(0, 0), 9);
    }

    // Promises 6 and 7
    private static void openAndClose() {
        SearchEngine engine = new SearchEngine(0);
        for (int i = 0; i < 4; i++) {
            Calls.due("open", engine.open(), i);
        }
        Calls.due("a fifth", engine.open(), FULL);
        Calls.due("close", engine.close(2), 0);
        Calls.due("close again", engine.close(2), BAD);
        Calls.due("close", engine.close(1), 0);
        Calls.due("close -1", engine.close(-1), BAD);
        Calls.due("close 4", engine.close(4), BAD);
        Calls.due("close least", engine.close(Integer.MIN_VALUE), BAD);
        Calls.due("open the least", engine.open(), 1);
        Calls.due("then the next", engine.open(), 2);
        Calls.due("full again", engine.open(), FULL);
        Calls.due("views", engine.told(3), 4);
        SearchEngine other = Calls.engineOf(0, "a", "a", "b");
        other.delete(1);
        other.open();
        Calls.put(other, 9, "a");
        other.refresh();
        Calls.due("stays: documents", other.view(1, 1), 3);
        Calls.due("stays: live before", other.view(0, 2), 3);
        Calls.due("stays: live after", other.view(1, 2), 2);
        Calls.dueHits(other, "a", "1=7 2=7");
        Calls.ask(other, 1, "a");
        Calls.dueText("dead in view 1", Calls.hits(other), "2=7");
        other.close(0);
        other.open();
        Calls.dueHits(other, "a", "2=7 9=7");
    }

    // Promise 8
    private static void searchOfAView() {
        SearchEngine engine = new SearchEngine(0);
        Calls.due("no view", Calls.ask(engine, 0, "a"), BAD);
        Calls.due("no view", Calls.ask(engine, -1, "a"), BAD);
        Calls.due("no view", Calls.ask(engine, 4, "a"), BAD);
        Calls.due("no view, that first", Calls.ask(engine, 0, ")"), BAD);
        Calls.due("tape is used up", engine.feed(0, 0, 1), 1);
        engine.search(0);
        Calls.put(engine, 1, "a b");
        engine.open();
        Calls.due("the buffer is in no view", Calls.ask(engine, 0, "a"), 0);
        engine.refresh();
        Calls.due("nor what comes later", Calls.ask(engine, 0, "a"), 0);
        engine.open();
        Calls.due("now it is", Calls.ask(engine, 1, "a"), 1);
        Calls.due("wrong", Calls.ask(engine, 0, "a ("), -13);
        Calls.due("the answer stays", engine.told(4), 1);
        Calls.due("its view stays", engine.told(5), 1);
        Calls.due("bad", Calls.ask(engine, 3, "a"), BAD);
        engine.close(1);
        Calls.due("closed: the answer stays", engine.key(0), 1);
        Calls.due("closed: its marks stay", engine.mark(0, BODY, false), 0);
        Calls.due("none", Calls.ask(engine, 0, "b"), 0);
        Calls.due("a new answer", engine.told(4), 0);
        Calls.due("of view 0", engine.told(5), 0);
    }

    private static void wordScores() {
        SearchEngine engine = new SearchEngine(3);
        Calls.put(engine, 3, 0, 0, "red", "red red blue");
        Calls.put(engine, 2, 0, 0, "", "red");
        Calls.put(engine, 1, 0, 0, "the blue", "the one");
        Calls.put(engine, -1, 0, 0, "", "green");
        engine.refresh();
        engine.open();
        // N 4. red in title: DF 1, RARE 3: 64*1*3*3/9 = 64; in body: DF 2, RARE 2: 64*2*2/11 = 23; 64*1*2/9 = 14.
        Calls.dueHits(engine, "red", "3=87 2=14");
        Calls.dueHits(engine, "title:red", "3=64");
        Calls.dueHits(engine, "body : RED", "3=23 2=14");
        // blue in title: DF 1, LEN 2: 64*3*3/10 = 57; in body: DF 1: 64*3/11 = 17.
        Calls.dueHits(engine, "blue", "1=57 3=17");
        Calls.dueHits(engine, "blues", "1=57 3=17");
        Calls.dueHits(engine, "the", "-1=0 1=0 2=0 3=0");
        Calls.dueHits(engine, "title:The", "-1=0 1=0 2=0 3=0");
        Calls.dueHits(engine, "red blue", "3=104");
        Calls.dueHits(engine, "red|blue", "3=104 1=57 2=14");
        Calls.dueHits(engine, "red ^ 9", "3=783 2=126");
        Calls.dueHits(engine, "-red", "-1=0 1=0");
        Calls.dueHits(engine, "-red^3 | green", "-1=21 1=0");
        Calls.dueHits(engine, "-the", "");
        engine.delete(2);
        engine.open();
        Calls.ask(engine, 1, "red");
        Calls.dueText("the dead count in N and DF", Calls.hits(engine), "3=87");
        SearchEngine many = new SearchEngine(0);
        for (int i = 0; i < 17; i++) {
            Calls.put(many, i, i % 4 == 0 ? "few all" : "all");
        }
        many.refresh();
        many.open();
        // N 17, DF of few 5: 17/2 = 8, 17/4 = 4: RARE 2: 64*2/10 = 12. DF of all 17: RARE 1: 64/10 = 6.
        Calls.dueHits(many, "few all", "0=18 4=18 8=18 12=18 16=18");
        SearchEngine most = new SearchEngine(0);
        Calls.put(most, 0, "rarest");
        for (int i = 1; i < 400; i++) {
            most.add(i, 0, 0);
        }
        most.open();
        // N 400, DF 1: 400/256 = 1: RARE 9: 64*9/9.
        Calls.dueHits(most, "rarest", "0=64");
    }

    private static void beginnings() {
        SearchEngine engine = new SearchEngine(3);
        Calls.put(engine, 1, 0, 0, "Category", "cats and CATEGORIES");
        Calls.put(engine, 2, 0, 0, "", "abcdefghijklmn");
        Calls.put(engine, 3, 0, 0, "the", "ca thee");
        engine.refresh();
        engine.open();
        Calls.dueHits(engine, "CAT*", "1=64");
        Calls.dueHits(engine, "cats*", "");
        Calls.dueHits(engine, "title:cat *", "1=48");
        Calls.dueHits(engine, "body:c*^2", "1=32 3=32");
        Calls.dueHits(engine, "the*", "3=16");
        Calls.dueHits(engine, "abcdefghijkl*", "2=16");
        Calls.dueHits(engine, "abcdefghijklxx*", "2=16");
        Calls.dueHits(engine, "abcdefghijkx*", "");
        Calls.dueHits(engine, "-t*", "1=0 2=0");
    }

    private static void phrases() {
        SearchEngine engine = Calls.engineOf(2, "one two three", "one x two", "two one", "one one two", "a the cat the");
        // N 5. one: DF 4, RARE 1; two: DF 4, RARE 1: 64*(1+1)/(8+3) = 11.
        Calls.dueHits(engine, "\"one two\"", "1=11 4=11");
        Calls.dueHits(engine, "\"one two\"~1", "4=23 1=11 2=11");
        Calls.dueHits(engine, "body:\" one two \" ~ 1 ^ 2", "4=46 1=22 2=22");
        Calls.dueHits(engine, "title:\"one two\"", "");
        Calls.dueHits(engine, "\"one the three\"", "1=23");
        Calls.dueHits(engine, "\"the one\"", "4=11 3=6 1=5 2=5");
        Calls.dueHits(engine, "\"the\"", "1=0 2=0 3=0 4=0 5=0");
        Calls.dueHits(engine, "title:\"the an\"~3", "1=0 2=0 3=0 4=0 5=0");
        Calls.dueHits(engine, "\"one one two\"", "4=17");
        Calls.dueHits(engine, "\"two one\"", "3=12");
        Calls.dueHits(engine, "\"one one\"~9", "4=11");
        Calls.dueHits(engine, "\"three one\"~9", "");
    }

    private static void ranges() {
        SearchEngine engine = new SearchEngine(0);
        Calls.put(engine, 1, -5, 999999999, "", "");
        Calls.put(engine, 2, 0, -999999999, "", "");
        Calls.put(engine, 3, 5, 1000000000, "", "");
        engine.refresh();
        engine.open();
        Calls.dueHits(engine, "[x -5 0]", "1=0 2=0");
        Calls.dueHits(engine, "[ x - 4 5 ]", "2=0 3=0");
        Calls.dueHits(engine, "[x 1 4]", "");
        Calls.dueHits(engine, "[x 5 -5]", "");
        Calls.dueHits(engine, "[y -999999999 999999999]", "1=0 2=0");
        Calls.dueHits(engine, "[x 000000000 000000005]^9", "2=0 3=0");
        Calls.dueHits(engine, "-[x -0 -0]", "1=0 3=0");
    }

    private static void groups() {
        SearchEngine engine = Calls.engineOf(0, "a b", "a c", "b c", "d");
        // N 4, DF of a, b, c 2: RARE 2, 64*2/10 = 12; of d 1: RARE 3, 64*3/9 = 21.
        Calls.dueHits(engine, "a (b | c)", "1=24 2=24");
        Calls.dueHits(engine, "a b | c", "1=24 2=12 3=12");
        Calls.dueHits(engine, "(a | b) (b | c)", "1=36 3=36 2=24");
        Calls.dueHits(engine, "((((((((a))))))))", "1=12 2=12");
        Calls.dueHits(engine, "(a | (b c)^2)^3", "3=144 1=36 2=36");
        Calls.dueHits(engine, "-(a b) a", "2=12");
        Calls.dueHits(engine, "-(a | b)", "4=0");
        Calls.dueHits(engine, "-(-a)", "1=0 2=0");
        Calls.dueHits(engine, "a a a", "1=36 2=36");
        Calls.dueHits(engine, "((((((((d^9)^9)^9)^9)^9)^9)^9)^9)^9 | d^9 | a", "4=1000000000 1=12 2=12");
        Calls.dueHits(engine, "((((((((d^9)^9)^9)^9)^9)^9)^9)^9)", "4=903981141");
    }

    private static void wrongQueries() {
        SearchEngine engine = Calls.engineOf(0, "cat");
        Calls.dueWrong(engine, "", 0);
        Calls.dueWrong(engine, "   ", 3);
        Calls.dueWrong(engine, "cat )", 4);
        Calls.dueWrong(engine, ")", 0);
        Calls.dueWrong(engine, "| cat", 0);
        Calls.dueWrong(engine, "cat | | cat", 6);
        Calls.dueWrong(engine, "cat |", 5);
        Calls.dueWrong(engine, "cat ^  ", 7);
        Calls.dueWrong(engine, "cat^0", 4);
        Calls.dueWrong(engine, "cat^10", 4);
        Calls.dueWrong(engine, "cat^01", 4);
        Calls.dueWrong(engine, "cat^a", 4);
        Calls.dueWrong(engine, "cat^2^2", 5);
        Calls.dueWrong(engine, "^2", 0);
        Calls.dueWrong(engine, "-", 1);
        Calls.dueWrong(engine, "--cat", 1);
        Calls.dueWrong(engine, "()", 1);
        Calls.dueWrong(engine, "(cat", 4);
        Calls.dueWrong(engine, "(cat]", 4);
        Calls.dueWrong(engine, "(cat)*", 5);
        Calls.dueWrong(engine, "cat**", 4);
        Calls.dueWrong(engine, "cat:cat", 3);
        Calls.dueWrong(engine, "Title:cat", 5);
        Calls.dueWrong(engine, "title:body:cat", 10);
        Calls.dueWrong(engine, "title:(cat)", 6);
        Calls.dueWrong(engine, "title:-cat", 6);
        Calls.dueWrong(engine, "title:[x 1 2]", 6);
        Calls.dueWrong(engine, "title::", 6);
        Calls.dueWrong(engine, ":cat", 0);
        Calls.dueWrong(engine, "\"\"", 1);
        Calls.dueWrong(engine, "\"cat*\"", 4);
        Calls.dueWrong(engine, "\"title:cat\"", 6);
        Calls.dueWrong(engine, "\"cat\"~", 6);
        Calls.dueWrong(engine, "\"cat\"~10", 6);
        Calls.dueWrong(engine, "\"cat\"~a", 6);
        Calls.dueWrong(engine, "\"cat\"^2~1", 7);
        Calls.dueWrong(engine, "\"cat\"*", 5);
        Calls.dueWrong(engine, "cat~1", 3);
        Calls.dueWrong(engine, "cat!", 3);
        Calls.dueWrong(engine, "\t", 0);
        Calls.dueWrong(engine, "cat \0", 4);
        Calls.dueWrong(engine, "cat \u00e9", 4);
        Calls.dueWrong(engine, "[X 1 2]", 1);
        Calls.dueWrong(engine, "[xx 1 2]", 1);
        Calls.dueWrong(engine, "[", 1);
        Calls.dueWrong(engine, "[x", 2);
        Calls.dueWrong(engine, "[x 1", 4);
        Calls.dueWrong(engine, "[x 1 2", 6);
        Calls.dueWrong(engine, "[x 1 2 3]", 7);
        Calls.dueWrong(engine, "[x --1 2]", 4);
        Calls.dueWrong(engine, "[x 1 1a]", 5);
        Calls.dueWrong(engine, "[x 1234567890 1]", 3);
        Calls.dueWrong(engine, "[x 1 1234567890]", 5);
        Calls.dueWrong(engine, "[x 1 -]", 6);
        Calls.dueWrong(engine, "]", 0);
        Calls.dueWrong(engine, "~1", 0);
        Calls.dueWrong(engine, "*", 0);
        Calls.due("nothing was answered", engine.told(5), NONE);
    }

    private static void wrongQueriesAtTheLimits() {
        SearchEngine engine = Calls.engineOf(0, "a a a a a a a a");
        Calls.dueHits(engine, "\"a a a a a a a a\"", "1=32");
        Calls.dueWrong(engine, "\"a a a a a a a a a\"", 17);
        Calls.dueWrong(engine, "((((((((( a", 8);
        Calls.dueHits(engine, "((((((((a))))))))", "1=32");
        Calls.dueHits(engine, "(a)".repeat(20), "1=640");
        Calls.dueWrong(engine, "(a)".repeat(20) + "-a", 60);
        Calls.dueWrong(engine, "(a)".repeat(19) + "a (a)", 60);
        Calls.dueHits(engine, "a ".repeat(40), "1=1280");
        Calls.dueWrong(engine, "a ".repeat(41), 80);
        Calls.dueWrong(engine, "a ".repeat(40) + "| a", 82);
        Calls.dueWrong(engine, "a ".repeat(40) + "|)", 81);
        Calls.dueWrong(engine, "a ".repeat(40) + ")", 80);
        Calls.dueWrong(engine, "a".repeat(599) + "(", 600);
    }

    // Promise 9
    private static void key() {
        SearchEngine engine = new SearchEngine(0);
        long[] keys = {5, Long.MAX_VALUE, -3, Long.MIN_VALUE, 0};
        for (long key : keys) {
            Calls.put(engine, key, key == 5 ? "a a" : "a");
        }
        engine.refresh();
        engine.open();
        Calls.ask(engine, 0, "a");
        long[] due = {5, Long.MIN_VALUE, -3, 0, Long.MAX_VALUE, 0};
        for (int i = 0; i < due.length; i++) {
            Calls.due("key " + i, engine.key(i), due[i]);
        }
        Calls.due("key -1", engine.key(-1), 0);
        Calls.due("key least", engine.key(Integer.MIN_VALUE), 0);
        Calls.due("key greatest", engine.key(Integer.MAX_VALUE), 0);
    }

    // Promise 10
    private static void hit() {
        SearchEngine engine = new SearchEngine(2);
        Calls.put(engine, 1, 0, 0, "", "");
        Calls.put(engine, 2, Integer.MIN_VALUE, Integer.MAX_VALUE, "the x, y", "x-the-a1 B");
        engine.refresh();
        engine.open();
        Calls.ask(engine, 0, "x");
        // title: 64*1*2*3/11 = 34; body: 64*1*2*1/12 = 10.
        int[] due = {44, Integer.MIN_VALUE, Integer.MAX_VALUE, 3, 4, 1, BAD};
        for (int what = 0; what < due.length; what++) {
            Calls.due("hit " + what, engine.hit(0, what), due[what]);
        }
        Calls.due("hit -1", engine.hit(0, -1), BAD);
        Calls.due("no such hit", engine.hit(1, 0), NONE);
        Calls.due("no such hit", engine.hit(-1, 5), NONE);
        Calls.due("neither", engine.hit(1, 6), BAD);
    }

    // Promises 11 and 12
    private static void bucketAndOver() {
        SearchEngine engine = new SearchEngine(0);
        int[] xs = {-7, 3, Integer.MAX_VALUE, Integer.MIN_VALUE, 4, 3};
        for (int i = 0; i < xs.length; i++) {
            Calls.put(engine, i, xs[i], i < 4 ? 2000000000 : 0, "", i < 5 ? "a" : "b");
        }
        engine.refresh();
        engine.open();
        Calls.ask(engine, 0, "a");
        Calls.due("bucket", engine.bucket(0, 3, 1), 1);
        Calls.due("bucket", engine.bucket(0, 3, 2), 2);
        Calls.due("bucket", engine.bucket(0, -7, 10), 1);
        Calls.due("bucket", engine.bucket(0, -7, 11), 2);
        Calls.due("bucket at the end", engine.bucket(0, Integer.MAX_VALUE, Integer.MAX_VALUE), 1);
        Calls.due("bucket at the start", engine.bucket(0, Integer.MIN_VALUE, Integer.MAX_VALUE), 2);
        Calls.due("bucket of y", engine.bucket(1, 0, 1), 1);
        Calls.due("bucket 2", engine.bucket(2, 0, 1), BAD);
        Calls.due("bucket -1", engine.bucket(-1, 0, 1), BAD);
        Calls.due("width 0", engine.bucket(0, 0, 0), BAD);
        Calls.due("width least", engine.bucket(0, 0, Integer.MIN_VALUE), BAD);
        Calls.due("sum of x", engine.over(0, 0), -1);
        Calls.due("least x", engine.over(0, 1), Integer.MIN_VALUE);
        Calls.due("greatest x", engine.over(0, 2), Integer.MAX_VALUE);
        Calls.due("sum of y", engine.over(1, 0), 8000000000L);
        Calls.due("least y", engine.over(1, 1), 0);
        Calls.due("greatest y", engine.over(1, 2), 2000000000);
        Calls.due("over 2", engine.over(2, 0), BAD);
        Calls.due("over -1", engine.over(-1, 0), BAD);
        Calls.due("of 3", engine.over(0, 3), BAD);
        Calls.due("of -1", engine.over(0, -1), BAD);
        Calls.ask(engine, 0, "[x -7 -7] a");
        Calls.due("all below 0", engine.over(0, 2), -7);
        Calls.ask(engine, 0, "c");
        for (int of = 0; of < 3; of++) {
            Calls.due("without hits", engine.over(0, of), 0);
        }
        Calls.due("without hits", engine.bucket(0, -7, 100), 0);
    }

    // Promise 13
    private static void mark() {
        SearchEngine engine = new SearchEngine(3);
        Calls.put(engine, 1, 0, 0, "One categories,more", "  the Dogs; one abcdefghijklmnop cats");
        engine.refresh();
        engine.open();
        dueMarks(engine, "one", 0, 3, 12, 3);
        dueMarks(engine, "dog", NONE, NONE, 6, 4);
        dueMarks(engine, "cat* | dog", 4, 10, 6, 4);
        dueMarks(engine, "title:cat* | cat", 4, 10, 33, 4);
        dueMarks(engine, "body:one", NONE, NONE, 12, 3);
        dueMarks(engine, "body:one | title:more", 15, 4, 12, 3);
        dueMarks(engine, "\"more dogs\" | one", 0, 3, 6, 4);
        dueMarks(engine, "abcdefghijklxyz", NONE, NONE, 16, 16);
        dueMarks(engine, "the", NONE, NONE, NONE, NONE);
        dueMarks(engine, "one | -dog", 0, 3, 12, 3);
        dueMarks(engine, "one -(x | dog (-dog))", 0, 3, 12, 3);
        dueMarks(engine, "one -(x | -dog) | more^2", 0, 3, 12, 3);
        dueMarks(engine, "[x 0 0]", NONE, NONE, NONE, NONE);
        dueMarks(engine, "\"the dog\"", NONE, NONE, 6, 4);
        Calls.due("another field", engine.mark(0, 2, false), BAD);
        Calls.due("another field", engine.mark(0, -1, false), BAD);
        Calls.due("neither", engine.mark(1, 2, false), BAD);
        Calls.due("no such hit", engine.mark(1, 1, false), NONE);
        Calls.due("no such hit", engine.mark(-1, 1, true), NONE);
        Calls.due("wrong", Calls.ask(engine, 0, "one ("), -15);
        Calls.due("marks of the answer", engine.mark(0, 1, false), 6);
    }

    private static void dueMarks(SearchEngine engine, String query, int title, int titleLength, int body, int bodyLength) {
        Calls.due("search of " + query, Calls.ask(engine, 0, query), 1);
        Calls.due("title place of " + query, engine.mark(0, TITLE, false), title);
        Calls.due("title length of " + query, engine.mark(0, TITLE, true), titleLength);
        Calls.due("body place of " + query, engine.mark(0, BODY, false), body);
        Calls.due("body length of " + query, engine.mark(0, BODY, true), bodyLength);
    }

    // Promises 14 and 15
    private static void near() {
        SearchEngine engine = new SearchEngine(1);
        Calls.put(engine, 1, 0, 0, "house", "cat cart dogs 9lives abcdefghijklmnop");
        Calls.put(engine, 2, 0, 0, "", "bat dog");
        Calls.put(engine, 3, 0, 0, "", "bat cat ca");
        engine.refresh();
        engine.open();
        dueNear(engine, "CAT", 0, "cat");
        dueNear(engine, "rat", 1, "bat");
        dueNear(engine, "cats", 1, "cat");
        dueNear(engine, "dogs", 1, "dog");
        dueNear(engine, "9life", 1, "9live");
        dueNear(engine, "c", 1, "ca");
        dueNear(engine, "dgo", 2, "dog");
        dueNear(engine, "abcdefghijklzzzz", 0, "abcdefghijkl");
        Calls.due("none is near", Calls.near(engine, 0, "house"), NONE);
        Calls.dueText("the latest that was found", Calls.nearest(engine), "abcdefghijkl");
        Calls.due("no word", Calls.near(engine, 0, ""), BAD);
        Calls.due("no word", Calls.near(engine, 0, "cat "), BAD);
        Calls.due("no word", Calls.near(engine, 0, " cat"), BAD);
        Calls.due("no word", Calls.near(engine, 0, "cat bat"), BAD);
        Calls.due("no view", Calls.near(engine, 1, "cat"), BAD);
        Calls.due("no view", Calls.near(engine, -1, "cat"), BAD);
        Calls.due("tape is used up", engine.feed(0, 0, 1), 1);
        engine.search(0);
        engine.delete(1);
        engine.open();
        Calls.due("also the dead", Calls.near(engine, 1, "cart"), 0);
        Calls.due("length", engine.nearByte(-1), 4);
        int[] due = {'c', 'a', 'r', 't', NONE};
        for (int i = 0; i < due.length; i++) {
            Calls.due("nearByte " + i, engine.nearByte(i), due[i]);
        }
        Calls.due("nearByte -2", engine.nearByte(-2), NONE);
        Calls.due("nearByte least", engine.nearByte(Integer.MIN_VALUE), NONE);
        Calls.due("nearByte greatest", engine.nearByte(Integer.MAX_VALUE), NONE);
    }

    private static void dueNear(SearchEngine engine, String word, int edits, String nearest) {
        Calls.due("near " + word, Calls.near(engine, 0, word), edits);
        Calls.dueText("nearest to " + word, Calls.nearest(engine), nearest);
    }

    // Promise 16
    private static void segment() {
        SearchEngine engine = new SearchEngine(3);
        Calls.put(engine, 1, 0, 0, "cat cats the", "a b1 c2 b1");
        Calls.put(engine, 2, 0, 0, "dog", "B1");
        engine.refresh();
        engine.delete(1);
        int[] due = {0, 2, 1, 2, 2, BAD};
        for (int what = 0; what < due.length; what++) {
            Calls.due("segment " + what, engine.segment(0, what), due[what]);
        }
        Calls.due("segment -1", engine.segment(0, -1), BAD);
        Calls.due("no segment", engine.segment(1, 0), NONE);
        Calls.due("no segment", engine.segment(-1, 4), NONE);
        Calls.due("neither", engine.segment(1, 5), BAD);
    }

    // Promise 17
    private static void view() {
        SearchEngine engine = Calls.engineOf(0, "a", "b", "c");
        Calls.put(engine, 4, "d");
        engine.refresh();
        engine.delete(2);
        engine.open();
        int[] first = {1, 3, 3, BAD};
        int[] second = {2, 4, 3, BAD};
        for (int what = 0; what < 4; what++) {
            Calls.due("view 0 " + what, engine.view(0, what), first[what]);
            Calls.due("view 1 " + what, engine.view(1, what), second[what]);
        }
        Calls.due("view -1", engine.view(0, -1), BAD);
        Calls.due("no view", engine.view(2, 0), BAD);
        Calls.due("no view", engine.view(-1, 0), BAD);
        Calls.due("no view", engine.view(4, 0), BAD);
    }

    // Promise 18
    private static void frequency() {
        SearchEngine engine = new SearchEngine(3);
        Calls.put(engine, 1, 0, 0, "cat", "dogs dog the");
        Calls.put(engine, 2, 0, 0, "", "DOG cat");
        engine.refresh();
        engine.delete(2);
        engine.open();
        Calls.due("dog in body, also the dead", Calls.frequency(engine, 0, BODY, "Dogs"), 2);
        Calls.due("dog in title", Calls.frequency(engine, 0, TITLE, "dog"), 0);
        Calls.due("cat in title", Calls.frequency(engine, 0, TITLE, "cats"), 1);
        Calls.due("a stop", Calls.frequency(engine, 0, BODY, "the"), 0);
        Calls.due("no field", Calls.frequency(engine, 0, 2, "dog"), BAD);
        Calls.due("no field", Calls.frequency(engine, 0, -1, "dog"), BAD);
        Calls.due("no view", Calls.frequency(engine, 1, BODY, "dog"), BAD);
        Calls.due("no word", Calls.frequency(engine, 0, BODY, ""), BAD);
        Calls.due("no word", Calls.frequency(engine, 0, BODY, "dog*"), BAD);
        Calls.due("no word", Calls.frequency(engine, 0, BODY, "dog "), BAD);
        Calls.due("tape is used up", engine.feed(0, 0, 1), 1);
    }

    // Promise 19
    private static void told() {
        SearchEngine engine = Calls.engineOf(0, "a", "a b");
        Calls.put(engine, 7, "c");
        Calls.put(engine, 8, "d");
        engine.delete(7);
        engine.open();
        engine.open();
        Calls.ask(engine, 1, "a");
        int[] due = {4, 1, 1, 3, 2, 1, 0, BAD};
        for (int what = 0; what < due.length; what++) {
            Calls.due("told " + what, engine.told(what), due[what]);
        }
        Calls.due("told -1", engine.told(-1), BAD);
        engine.close(1);
        Calls.due("the view of the answer", engine.told(5), 1);
        Calls.due("views", engine.told(3), 2);
    }
}
