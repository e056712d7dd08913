/** A test for each sentence of "DOCUMENTS". */
final class DocumentEdges {
    private static final int BAD = SearchEngine.BAD;
    private static final int FULL = SearchEngine.FULL;

    private DocumentEdges() { }

    static void run() {
        keys();
        titleAndBody();
        numbers();
        addedToTheBuffer();
        oldOneInTheBuffer();
        oldOneInASegment();
        oldOneThatWasDeleted();
        fourHundred();
        bufferBecomesASegment();
        behindAllOthers();
        bufferIsEmpty();
        noSegmentOfNone();
        threeAreNotMerged();
        fourAreMerged();
        fourOfEachLevel();
        placeOfTheMerged();
        mergedWithoutTheDeleted();
        sixteenInTheBuffer();
        sixteenThatAreNotDeleted();
        sixteenMerge();
        deletedStaysTillMerged();
        segmentsOfAView();
        deadInAView();
        viewStays();
        fourViews();
    }

    /** Adds documents without texts with keys from .. to - 1, each with a segment of its own. */
    private static void addSegments(SearchEngine engine, int from, int to) {
        for (int key = from; key < to; key++) {
            engine.add(key, 0, 0);
            engine.refresh();
        }
    }

    private static void addMany(SearchEngine engine, int from, int to) {
        for (int key = from; key < to; key++) {
            engine.add(key, 0, 0);
        }
    }

    /** The levels of the segments, each with how many documents it has: "1:4 0:1". */
    private static void dueSegments(String when, SearchEngine engine, String want) {
        StringBuilder got = new StringBuilder();
        for (int s = 0; s < engine.told(2); s++) {
            got.append(s == 0 ? "" : " ").append(engine.segment(s, 0)).append(':').append(engine.segment(s, 1));
        }
        Calls.dueText("segments, " + when, got.toString(), want);
    }

    private static void keys() {
        Sentences.says("DOCUMENTS have a KEY (a long),");
        long[] keys = {Long.MIN_VALUE, Long.MIN_VALUE + 1, -(1L << 32), -1, 0, 1, 1L << 31, 1L << 32, (1L << 32) + 1,
            Long.MAX_VALUE};
        SearchEngine engine = new SearchEngine(0);
        for (long key : keys) {
            engine.add(key, 0, 0);
        }
        Calls.due("all keys are different", engine.told(1), keys.length);
        engine.refresh();
        engine.open();
        Calls.ask(engine, 0, "[x 0 0]");
        for (int i = 0; i < keys.length; i++) {
            Calls.due("key " + i, engine.key(i), keys[i]);
            Calls.due("delete " + keys[i], engine.delete(keys[i]), true);
            Calls.due("deleted are", engine.segment(0, 2), i + 1);
        }
    }

    private static void titleAndBody() {
        Sentences.says("two FIELDS, TITLE (0) and BODY (1), that are TEXTS of 100 and 400 bytes at most,");
        String title = "t".repeat(100);
        String body = "b".repeat(400);
        SearchEngine engine = new SearchEngine(0);
        Calls.due("both as long as can be", Calls.put(engine, 1, 0, 0, title, body), 1);
        Calls.due("the title too long", Calls.put(engine, 2, 0, 0, title + "t", ""), BAD);
        Calls.due("the title much too long", Calls.put(engine, 2, 0, 0, title.repeat(5), ""), BAD);
        Calls.due("the body too long", Calls.put(engine, 2, 0, 0, "", body + "b"), BAD);
        Calls.due("the body much too long", Calls.put(engine, 2, 0, 0, "", "b".repeat(599)), BAD);
        Calls.due("both too long", Calls.put(engine, 2, 0, 0, title + "t", body + "b"), BAD);
        Calls.due("both without a byte", Calls.put(engine, 2, 0, 0, "", ""), 2);
        engine.refresh();
        engine.open();
        Calls.due("title is field 0", Calls.frequency(engine, 0, 0, title), 1);
        Calls.due("title is not field 1", Calls.frequency(engine, 0, 1, title), 0);
        Calls.due("body is field 1", Calls.frequency(engine, 0, 1, body), 1);
        Calls.due("body is not field 0", Calls.frequency(engine, 0, 0, body), 0);
    }

    private static void numbers() {
        Sentences.says("and two numbers X (0) and Y (1).");
        SearchEngine engine = new SearchEngine(0);
        engine.add(1, Integer.MIN_VALUE, Integer.MAX_VALUE);
        engine.add(2, Integer.MAX_VALUE, Integer.MIN_VALUE);
        engine.refresh();
        engine.open();
        Calls.ask(engine, 0, "-[x 0 0]");
        Calls.due("least x", engine.hit(0, 1), Integer.MIN_VALUE);
        Calls.due("greatest y", engine.hit(0, 2), Integer.MAX_VALUE);
        Calls.due("greatest x", engine.hit(1, 1), Integer.MAX_VALUE);
        Calls.due("least y", engine.hit(1, 2), Integer.MIN_VALUE);
    }

    private static void addedToTheBuffer() {
        Sentences.says("A document that is added goes into the BUFFER;");
        SearchEngine engine = new SearchEngine(0);
        Calls.put(engine, 1, "cat");
        Calls.due("in the buffer", engine.told(1), 1);
        Calls.due("in no segment", engine.told(2), 0);
        engine.open();
        Calls.due("in no view", engine.view(0, 1), 0);
        Calls.due("not found", Calls.ask(engine, 0, "cat"), 0);
    }

    private static void oldOneInTheBuffer() {
        Sentences.says("one that has its KEY, is in the BUFFER");
        SearchEngine engine = new SearchEngine(0);
        Calls.put(engine, 7, "old");
        Calls.put(engine, 8, "other");
        Calls.put(engine, 7, "new");
        Calls.due("one of both is deleted", engine.told(1), 2);
        engine.refresh();
        engine.open();
        Calls.due("the old one is gone", Calls.ask(engine, 0, "old"), 0);
        Calls.due("the new one is there", Calls.ask(engine, 0, "new | other"), 2);
    }

    private static void oldOneInASegment() {
        Sentences.says("or a SEGMENT and was not deleted, is deleted.");
        SearchEngine engine = Calls.engineOf(0, "old", "other");
        Calls.put(engine, 1, "new");
        Calls.due("the old one is deleted", engine.segment(0, 2), 1);
        Calls.due("the new one is in the buffer", engine.told(1), 1);
        engine.refresh();
        engine.open();
        Calls.due("found", Calls.ask(engine, 1, "old | new"), 1);
        Calls.due("the new one", engine.hit(0, 5), 2);
        addSegments(engine, 10, 12);
        dueSegments("when merged", engine, "1:4");
        engine.add(1, 0, 0);
        Calls.due("deleted in a merged one, too", engine.segment(0, 2), 1);
    }

    private static void oldOneThatWasDeleted() {
        Sentences.says("and was not deleted, is deleted.");
        SearchEngine engine = Calls.engineOf(0, "old", "other");
        engine.delete(1);
        Calls.put(engine, 1, "new");
        Calls.due("deleted once", engine.segment(0, 2), 1);
        Calls.put(engine, 1, "newer");
        Calls.due("the last one alone", engine.told(1), 1);
        Calls.due("which is deleted next", engine.delete(1), true);
        Calls.due("then none is left", engine.delete(1), false);
    }

    private static void fourHundred() {
        Sentences.says("400 are added at most.");
        SearchEngine engine = new SearchEngine(0);
        for (int i = 1; i <= 400; i++) {
            Calls.due("add", engine.add(5, i, 0), i);
        }
        Calls.due("one more, though one alone is not deleted", engine.add(5, 0, 0), FULL);
        Calls.due("of another key", engine.add(6, 0, 0), FULL);
        engine.refresh();
        Calls.due("behind a refresh", engine.add(6, 0, 0), FULL);
        engine.open();
        Calls.ask(engine, 0, "-[x 0 0]");
        Calls.due("the last one stays", engine.hit(0, 1), 400);
        Calls.due("delete", engine.delete(5), true);
        Calls.due("behind a delete", engine.add(6, 0, 0), FULL);
        Calls.due("so many are told", engine.told(0), 400);
    }

    private static void bufferBecomesASegment() {
        Sentences.says("refresh(): the documents of the BUFFER that are not deleted become a SEGMENT of LEVEL 0,");
        SearchEngine engine = new SearchEngine(0);
        addMany(engine, 0, 5);
        engine.delete(0);
        engine.delete(3);
        engine.refresh();
        dueSegments("without the deleted", engine, "0:3");
        Calls.due("none is deleted", engine.segment(0, 2), 0);
        engine.open();
        Calls.due("all are found", Calls.ask(engine, 0, "[x 0 0]"), 3);
        Calls.due("the first", engine.key(0), 1);
        Calls.due("the last", engine.key(2), 4);
    }

    // Keys are different in a view, so no answer tells the order within a segment.
    private static void behindAllOthers() {
        Sentences.says("behind all others, in the order in which they came;");
        SearchEngine engine = new SearchEngine(0);
        addMany(engine, 0, 1);
        engine.refresh();
        addMany(engine, 1, 3);
        engine.refresh();
        addMany(engine, 3, 6);
        engine.refresh();
        dueSegments("one behind the other", engine, "0:1 0:2 0:3");
    }

    private static void bufferIsEmpty() {
        Sentences.says("the BUFFER is empty.");
        SearchEngine engine = new SearchEngine(0);
        addMany(engine, 0, 3);
        engine.refresh();
        Calls.due("in the buffer", engine.told(1), 0);
        Calls.due("nothing becomes a segment again", engine.refresh(), 1);
        addMany(engine, 3, 18);
        Calls.due("15 more stay in it", engine.told(1), 15);
        Calls.due("no second segment yet", engine.told(2), 1);
    }

    private static void noSegmentOfNone() {
        Sentences.says("(None, if there are none.)");
        SearchEngine engine = new SearchEngine(0);
        Calls.due("a new engine", engine.refresh(), 0);
        engine.add(1, 0, 0);
        engine.delete(1);
        Calls.due("all are deleted", engine.refresh(), 0);
        addSegments(engine, 2, 5);
        Calls.due("no fourth, no merge", engine.refresh(), 3);
        Calls.due("merges", engine.told(6), 0);
    }

    private static void threeAreNotMerged() {
        Sentences.says("Then, as long as there are FOUR SEGMENTS of one LEVEL:");
        SearchEngine engine = new SearchEngine(0);
        addSegments(engine, 0, 3);
        dueSegments("three", engine, "0:1 0:1 0:1");
        Calls.due("no merge", engine.told(6), 0);
        addSegments(engine, 3, 4);
        dueSegments("four", engine, "1:4");
        addSegments(engine, 4, 7);
        dueSegments("three of level 0 and one of level 1", engine, "1:4 0:1 0:1 0:1");
        addSegments(engine, 7, 15);
        dueSegments("three of both", engine, "1:4 1:4 1:4 0:1 0:1 0:1");
        Calls.due("three merges", engine.told(6), 3);
        addSegments(engine, 15, 16);
        dueSegments("four, and four again", engine, "2:16");
        Calls.due("five merges", engine.told(6), 5);
    }

    private static void fourAreMerged() {
        Sentences.says("the first four of the least such LEVEL are merged: they go,");
        SearchEngine engine = new SearchEngine(0);
        for (int s = 1; s <= 3; s++) {
            addMany(engine, 10 * s, 11 * s);
            Calls.due("refresh " + s, engine.refresh(), s);
        }
        dueSegments("before", engine, "0:1 0:2 0:3");
        addMany(engine, 40, 44);
        Calls.due("refresh", engine.refresh(), 1);
        dueSegments("all four are gone", engine, "1:10");
        addSegments(engine, 50, 61);
        dueSegments("level 0 has less than four", engine, "1:10 1:4 1:4 0:1 0:1 0:1");
    }

    private static void fourOfEachLevel() {
        Sentences.says("comes one of a LEVEL one more with their documents, in order,");
        SearchEngine engine = new SearchEngine(0);
        addSegments(engine, 0, 63);
        dueSegments("63", engine, "2:16 2:16 2:16 1:4 1:4 1:4 0:1 0:1 0:1");
        addSegments(engine, 63, 64);
        dueSegments("64", engine, "3:64");
        engine.open();
        Calls.due("all documents", Calls.ask(engine, 0, "[x 0 0]"), 64);
        for (int i = 0; i < 64; i++) {
            Calls.due("key " + i, engine.key(i), i);
            Calls.due("added " + i, engine.hit(i, 5), i);
        }
        SearchEngine most = new SearchEngine(0);
        addSegments(most, 0, 254);
        most.add(254, 0, 0);
        Calls.due("three of each level", most.refresh(), 12);
        most.add(255, 0, 0);
        Calls.due("four of each, merged by the 512th call", most.refresh(), 1);
    }

    private static void placeOfTheMerged() {
        Sentences.says("and in the place of the first of them");
        SearchEngine engine = new SearchEngine(0);
        addSegments(engine, 0, 4);
        addMany(engine, 4, 6);
        engine.refresh();
        addSegments(engine, 6, 8);
        dueSegments("before", engine, "1:4 0:2 0:1 0:1");
        addSegments(engine, 8, 9);
        dueSegments("behind the one that stays", engine, "1:4 1:5");
    }

    // The newest of the four has a document that is not deleted, so "none is left" can't come.
    private static void mergedWithoutTheDeleted() {
        Sentences.says("without those that are deleted (none, if none is left).");
        SearchEngine engine = new SearchEngine(0);
        for (int s = 0; s < 3; s++) {
            addMany(engine, 10 * s, 10 * s + 2);
            engine.refresh();
        }
        engine.delete(0);
        engine.delete(10);
        engine.delete(11);
        dueSegments("before", engine, "0:2 0:2 0:2");
        addSegments(engine, 30, 31);
        dueSegments("some are deleted", engine, "1:4");
        Calls.due("none in it", engine.segment(0, 2), 0);
        SearchEngine gone = new SearchEngine(0);
        addSegments(gone, 0, 3);
        for (int key = 0; key < 3; key++) {
            gone.delete(key);
        }
        addSegments(gone, 3, 4);
        dueSegments("all but the newest are deleted", gone, "1:1");
        Calls.due("merges", gone.told(6), 1);
    }

    private static void sixteenInTheBuffer() {
        Sentences.says("So it is also when the BUFFER has 16 documents that are not deleted: at once behind that "
            + "add().");
        SearchEngine engine = new SearchEngine(0);
        addMany(engine, 0, 15);
        Calls.due("15", engine.told(1), 15);
        Calls.due("no segment", engine.told(2), 0);
        Calls.due("the 16th", engine.add(15, 0, 0), 16);
        Calls.due("the buffer is empty", engine.told(1), 0);
        dueSegments("at once", engine, "0:16");
        addMany(engine, 16, 31);
        dueSegments("15 more", engine, "0:16");
        engine.add(31, 0, 0);
        dueSegments("16 more", engine, "0:16 0:16");
        addMany(engine, 32, 37);
        Calls.due("five wait", engine.told(1), 5);
        engine.refresh();
        addMany(engine, 37, 52);
        Calls.due("counted anew behind a refresh", engine.told(1), 15);
    }

    private static void sixteenThatAreNotDeleted() {
        Sentences.says("when the BUFFER has 16 documents that are not deleted");
        SearchEngine engine = new SearchEngine(0);
        addMany(engine, 0, 15);
        engine.delete(4);
        engine.add(20, 0, 0);
        Calls.due("16, one of them deleted", engine.told(1), 15);
        engine.add(20, 0, 0);
        Calls.due("17, one of them replaced", engine.told(1), 15);
        Calls.due("no segment", engine.told(2), 0);
        engine.add(4, 0, 0);
        Calls.due("now there are 16", engine.told(1), 0);
        dueSegments("at once", engine, "0:16");
        SearchEngine other = new SearchEngine(0);
        other.add(1, 0, 0);
        other.refresh();
        addMany(other, 2, 17);
        other.add(1, 0, 0);
        dueSegments("the 16th replaces one of a segment", other, "0:1 0:16");
        Calls.due("which is deleted", other.segment(0, 2), 1);
    }

    private static void sixteenMerge() {
        Sentences.says("So it is also when the BUFFER has 16 documents");
        SearchEngine engine = new SearchEngine(0);
        addMany(engine, 0, 63);
        dueSegments("three and 15", engine, "0:16 0:16 0:16");
        engine.add(63, 0, 0);
        dueSegments("four are merged at once", engine, "1:64");
        Calls.due("merges", engine.told(6), 1);
        addMany(engine, 64, 255);
        dueSegments("255", engine, "1:64 1:64 1:64 0:16 0:16 0:16");
        engine.add(255, 0, 0);
        dueSegments("256", engine, "2:256");
        addMany(engine, 256, 400);
        dueSegments("400", engine, "2:256 1:64 1:64 0:16");
        Calls.due("all", engine.told(1), 0);
    }

    private static void deletedStaysTillMerged() {
        Sentences.says("A deleted document stays in its SEGMENT till that is merged.");
        SearchEngine engine = Calls.engineOf(0, "cat", "dog");
        engine.delete(1);
        engine.delete(2);
        engine.refresh();
        dueSegments("though all are deleted", engine, "0:2");
        Calls.due("deleted", engine.segment(0, 2), 2);
        Calls.due("its terms stay, too", engine.segment(0, 4), 2);
        engine.open();
        Calls.due("frequency counts it", Calls.frequency(engine, 1, 1, "cat"), 1);
        addSegments(engine, 10, 12);
        dueSegments("not merged yet", engine, "0:2 0:1 0:1");
        addSegments(engine, 12, 13);
        dueSegments("merged", engine, "1:3");
        Calls.due("its terms go, too", engine.segment(0, 4), 0);
        engine.open();
        Calls.due("no frequency", Calls.frequency(engine, 2, 1, "cat"), 0);
    }

    private static void segmentsOfAView() {
        Sentences.says("A VIEW has the SEGMENTS that there are when it is opened, as they are then;");
        SearchEngine engine = new SearchEngine(0);
        engine.open();
        Calls.due("none", engine.view(0, 0), 0);
        Calls.due("no documents", engine.view(0, 1), 0);
        addSegments(engine, 0, 3);
        engine.open();
        Calls.due("three", engine.view(1, 0), 3);
        addSegments(engine, 3, 5);
        engine.open();
        Calls.due("two, one is merged", engine.view(2, 0), 2);
        Calls.due("five documents", engine.view(2, 1), 5);
        Calls.due("three, they are merged now", engine.view(1, 0), 3);
        Calls.due("three documents", engine.view(1, 1), 3);
        Calls.due("still none", engine.view(0, 0), 0);
        SearchEngine most = new SearchEngine(0);
        addSegments(most, 0, 255);
        most.open();
        Calls.due("three of each level, by the 512th call", most.view(0, 0), 12);
    }

    private static void deadInAView() {
        Sentences.says("in it those are DEAD that were deleted by then.");
        SearchEngine engine = Calls.engineOf(0, "cat", "cat", "cat");
        engine.delete(2);
        engine.open();
        engine.delete(1);
        engine.delete(3);
        engine.open();
        for (int view = 0; view < 3; view++) {
            int[] live = {3, 2, 0};
            Calls.due("not dead", engine.view(view, 2), live[view]);
            Calls.due("documents", engine.view(view, 1), 3);
            Calls.due("found", Calls.ask(engine, view, "cat"), live[view]);
        }
    }

    private static void viewStays() {
        Sentences.says("It stays so, whatever comes.");
        SearchEngine engine = Calls.engineOf(0, "cat one", "cat two", "cat two");
        String due = "1=6 2=6 3=6";
        Calls.dueHits(engine, "cat", "1=6 2=6 3=6");
        engine.delete(1);
        Calls.dueHits(engine, "cat", due);
        Calls.put(engine, 2, "cat cat cat");
        Calls.dueHits(engine, "cat", due);
        engine.refresh();
        Calls.dueHits(engine, "cat", due);
        addSegments(engine, 10, 12);
        dueSegments("merged", engine, "1:4");
        Calls.dueHits(engine, "cat", due);
        engine.delete(3);
        engine.open();
        engine.close(1);
        Calls.dueHits(engine, "cat", due);
        Calls.due("frequency", Calls.frequency(engine, 0, 1, "two"), 2);
        Calls.due("near", Calls.near(engine, 0, "ones"), 1);
        Calls.due("segments", engine.view(0, 0), 1);
        Calls.due("documents", engine.view(0, 1), 3);
        Calls.due("not dead", engine.view(0, 2), 3);
        addMany(engine, 100, 400);
        Calls.dueHits(engine, "cat", due);
    }

    private static void fourViews() {
        Sentences.says("Four VIEWS are open at most.");
        SearchEngine engine = new SearchEngine(0);
        for (int i = 0; i < 4; i++) {
            Calls.due("open", engine.open(), i);
        }
        Calls.due("a fifth", engine.open(), FULL);
        Calls.due("open are", engine.told(3), 4);
        engine.close(3);
        Calls.due("one was closed", engine.open(), 3);
        Calls.due("a fifth again", engine.open(), FULL);
    }
}
