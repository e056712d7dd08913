/** A test for each sentence of "WHAT MATCHES, AND SCORES". */
final class ScoreEdges {
    private static final int BODY = 1;
    // With a title of the word alone and N 1 its score is 64 * 1 * 1 * 3 / 9 = 21, and 21 * 9^8 = 903981141.
    private static final String NEARLY_MOST = "((((((((title:d^9)^9)^9)^9)^9)^9)^9)^9)";

    private ScoreEdges() { }

    static void run() {
        notDead();
        allDocumentsCount();
        deadCountInFrequencies();
        lengths();
        weights();
        rareness();
        rarenessInAField();
        mostScores();
        mostSums();
        word();
        wordIsCut();
        wordInBothFields();
        wordWithoutATerm();
        beginning();
        beginningOfTwelveBytes();
        beginningInFields();
        phraseNumbers();
        phraseOccurrences();
        phraseGaps();
        phraseSlack();
        phraseWithoutSlack();
        phraseCount();
        phraseRareness();
        phraseInFields();
        phraseWithoutATerm();
        ranges();
        groups();
        boosts();
        nots();
        allParts();
        anyAll();
        orderOfHits();
        answerStays();
        refusals();
        tapeIsUsedUp();
    }

    private static void notDead() {
        Sentences.says("WHAT MATCHES, AND SCORES, of the documents of a VIEW that are not DEAD.");
        SearchEngine engine = Calls.engineOf(0, "cat", "cat", "cat");
        engine.delete(1);
        engine.delete(3);
        engine.open();
        Calls.due("one is not dead", Calls.ask(engine, 1, "cat"), 1);
        Calls.due("nor do the dead match a not", Calls.ask(engine, 1, "-dog"), 1);
        engine.delete(2);
        engine.open();
        Calls.due("all are dead", Calls.ask(engine, 2, "cat | -cat"), 0);
        Calls.put(engine, 9, "cat");
        Calls.due("what is in the buffer is in no view", Calls.ask(engine, 2, "cat"), 0);
        SearchEngine empty = new SearchEngine(0);
        empty.open();
        Calls.due("a view without segments", Calls.ask(empty, 0, "-cat"), 0);
    }

    private static void allDocumentsCount() {
        Sentences.says("N: all documents of its SEGMENTS, also the DEAD.");
        SearchEngine engine = Calls.engineOf(0, "cat", "dog", "dog");
        // N 3, DF 1: RARE 2, 64 * 2 / 9.
        Calls.dueHits(engine, "cat", "1=14");
        Calls.put(engine, 4, "dog");
        engine.open();
        Calls.ask(engine, 1, "cat");
        Calls.dueText("the buffer doesn't count", Calls.hits(engine), "1=14");
        engine.refresh();
        engine.delete(2);
        engine.delete(3);
        engine.delete(4);
        engine.open();
        Calls.ask(engine, 2, "cat");
        Calls.dueText("the dead and a second segment count", Calls.hits(engine), "1=21");
        Calls.dueHits(engine, "cat", "1=14");
    }

    private static void deadCountInFrequencies() {
        Sentences.says("DF of a TERM in a FIELD: how many of these have it there, also the DEAD.");
        SearchEngine engine = Calls.engineOf(0, "cat cat cat", "cat", "dog", "dog");
        // N 4, DF 2 (how often it is in one counts for nothing): RARE 2.
        Calls.dueHits(engine, "cat", "1=34 2=14");
        engine.delete(1);
        engine.open();
        Calls.ask(engine, 1, "cat");
        Calls.dueText("the dead count", Calls.hits(engine), "2=14");
        Calls.put(engine, 5, 0, 0, "cat", "");
        engine.refresh();
        engine.open();
        // Body: N 5, DF 2, RARE 2; title: DF 1, RARE 3, 64 * 3 * 3 / 9.
        Calls.ask(engine, 2, "cat");
        Calls.dueText("each field has its own", Calls.hits(engine), "5=64 2=14");
    }

    private static void lengths() {
        Sentences.says("LEN: how many TOKENS a document has in a FIELD.");
        for (int tokens = 1; tokens <= 200; tokens++) {
            SearchEngine engine = Calls.engineOf(2, "b" + " a".repeat(tokens - 1));
            Calls.ask(engine, 0, "b");
            Calls.due("LEN " + tokens, engine.hit(0, 4), tokens);
            Calls.due("a score with LEN " + tokens, engine.hit(0, 0), 64 / (8 + tokens));
        }
        SearchEngine engine = new SearchEngine(0);
        Calls.put(engine, 1, 0, 0, "cat a b c d e f g", "");
        Calls.put(engine, 2, 0, 0, "cat", "a b c d e f g");
        engine.refresh();
        engine.open();
        Calls.dueHits(engine, "cat", "2=21 1=12");
        Calls.due("of the other field", engine.hit(1, 4), 0);
    }

    private static void weights() {
        Sentences.says("WEIGHT: of TITLE 3, of BODY 1.");
        SearchEngine engine = new SearchEngine(0);
        Calls.put(engine, 1, 0, 0, "cat", "dog");
        engine.refresh();
        engine.open();
        Calls.dueHits(engine, "cat", "1=21");
        Calls.dueHits(engine, "dog", "1=7");
        Calls.dueHits(engine, "cat*", "1=48");
        Calls.dueHits(engine, "dog*", "1=16");
    }

    private static void dueRare(int documents, int holders, int rare) {
        SearchEngine engine = new SearchEngine(0);
        for (int i = 0; i < documents; i++) {
            if (i < holders) {
                Calls.say(engine, "\0b");
            }
            engine.add(i, 0, 0);
        }
        engine.refresh();
        engine.open();
        Calls.ask(engine, 0, "b");
        Calls.due("RARE with N " + documents + ", DF " + holders, engine.hit(0, 0), 64 * rare / 9);
    }

    private static void rareness() {
        Sentences.says("RARE of a TERM in a FIELD: 1 and the greatest k for which N, divided by 2^k and cut, is DF "
            + "or more (DF is 1 or more here).");
        int[][] of = {{1, 1, 1}, {2, 1, 2}, {2, 2, 1}, {3, 1, 2}, {3, 2, 1}, {3, 3, 1}, {4, 1, 3}, {4, 2, 2}, {5, 2, 2},
            {5, 3, 1}, {6, 3, 2}, {7, 1, 3}, {7, 2, 2}, {7, 3, 2}, {7, 4, 1}, {8, 1, 4}, {8, 2, 3}, {11, 3, 2},
            {12, 3, 3}, {15, 1, 4}, {16, 1, 5}, {19, 5, 2}, {20, 5, 3}, {31, 1, 5}, {32, 1, 6}, {63, 1, 6}, {64, 1, 7},
            {127, 1, 7}, {128, 1, 8}, {255, 1, 8}, {256, 1, 9}, {400, 1, 9}, {400, 2, 8}, {400, 3, 8},
            {400, 4, 7}, {150, 150, 1}};
        for (int[] one : of) {
            dueRare(one[0], one[1], one[2]);
        }
    }

    private static void rarenessInAField() {
        Sentences.says("RARE of a TERM in a FIELD:");
        SearchEngine engine = new SearchEngine(0);
        for (int i = 0; i < 4; i++) {
            Calls.put(engine, i, 0, 0, "cat", i == 0 ? "cat" : "");
        }
        engine.refresh();
        engine.open();
        // In title DF 4, RARE 1: 21; in body DF 1, RARE 3: 64 * 3 / 9 = 21.
        Calls.dueHits(engine, "cat", "0=42 1=21 2=21 3=21");
        Calls.dueHits(engine, "body:cat", "0=21");
    }

    private static SearchEngine titleOfOne() {
        SearchEngine engine = new SearchEngine(0);
        Calls.put(engine, 1, 0, 0, "d", "");
        engine.refresh();
        engine.open();
        return engine;
    }

    private static void mostScores() {
        Sentences.says("All sums and products are at most 1000000000 (that, if they are more).");
        SearchEngine engine = titleOfOne();
        Calls.dueHits(engine, NEARLY_MOST, "1=903981141");
        Calls.dueHits(engine, NEARLY_MOST + "^1", "1=903981141");
        Calls.dueHits(engine, NEARLY_MOST + "^2", "1=1000000000");
        Calls.dueHits(engine, NEARLY_MOST + "^9", "1=1000000000");
        // 21 * 9^7 = 100442349, which is more than what is missed to 1000000000.
        String ninth = "(((((((title:d^9)^9)^9)^9)^9)^9)^9)";
        Calls.dueHits(engine, ninth + "^9", "1=903981141");
        Calls.dueHits(engine, ninth + "^9 | d", "1=903981162");
        Calls.dueHits(engine, ninth + "^9 " + ninth + "^1", "1=1000000000");
    }

    private static void mostSums() {
        Sentences.says("All sums and products are at most 1000000000");
        SearchEngine engine = titleOfOne();
        String all = NEARLY_MOST + "^9";
        Calls.dueHits(engine, all + "|" + all, "1=1000000000");
        Calls.dueHits(engine, all + " " + all, "1=1000000000");
        // Sums of three and more go beyond an int, too.
        Calls.dueHits(engine, all + "|" + all + "|" + all + "|" + all, "1=1000000000");
        Calls.dueHits(engine, all + " " + all + " " + all + " " + all, "1=1000000000");
        Calls.dueHits(engine, all + " " + all + " | " + all + " d", "1=1000000000");
        Calls.dueHits(engine, NEARLY_MOST + NEARLY_MOST, "1=1000000000");
        // 96018859 are missed to the most; 21 * 9^6 * 8 = 89282088 are less than that.
        Calls.dueHits(engine, NEARLY_MOST + "|(((((((d^9)^9)^9)^9)^9)^9)^8)", "1=993263229");
        Calls.dueHits(engine, NEARLY_MOST + "|(((((((d^9)^9)^9)^9)^9)^9)^8)^2", "1=1000000000");
    }

    private static void word() {
        Sentences.says("WORD: its TERM has TF TOKENS of the FIELD: with TF above 0 it matches, the score is 64 TF "
            + "RARE WEIGHT / (8 + LEN), cut;");
        SearchEngine engine = Calls.engineOf(0, "a a a b c", "b b b b b", "d", "");
        // N 4. a: DF 1, RARE 3, 64 * 3 * 3 / 13 = 44; b: DF 2, RARE 2, 64 * 2 / 13 = 9 and 64 * 5 * 2 / 13 = 49.
        Calls.dueHits(engine, "a", "1=44");
        Calls.dueHits(engine, "b", "2=49 1=9");
        Calls.dueHits(engine, "e", "");
        SearchEngine most = Calls.engineOf(0, "a" + " a".repeat(199));
        Calls.dueHits(most, "a", "1=61");
    }

    private static void wordIsCut() {
        Sentences.says("/ (8 + LEN), cut;");
        // 64 / 9 = 7.1, 64 / 10 = 6.4, 64 / 11 = 5.8, 64 / 208 = 0.3; ^ comes behind the cut.
        Calls.dueHits(Calls.engineOf(0, "a"), "a", "1=7");
        Calls.dueHits(Calls.engineOf(0, "a b"), "a", "1=6");
        Calls.dueHits(Calls.engineOf(0, "a b c"), "a", "1=5");
        Calls.dueHits(Calls.engineOf(0, "a b c"), "a^9", "1=45");
        Calls.dueHits(Calls.engineOf(0, "a" + " b".repeat(199)), "a^9", "1=0");
    }

    private static void wordInBothFields() {
        Sentences.says("without FIELD it is the sum of both (those that match).");
        SearchEngine engine = new SearchEngine(0);
        Calls.put(engine, 1, 0, 0, "cat b c", "cat b c");
        Calls.put(engine, 2, 0, 0, "cat b c", "b");
        Calls.put(engine, 3, 0, 0, "b", "cat b c");
        Calls.put(engine, 4, 0, 0, "b", "b");
        engine.refresh();
        engine.open();
        // N 4, DF 2 in both, RARE 2: 64 * 2 * 3 / 11 = 34.9 and 64 * 2 / 11 = 11.6, each cut.
        Calls.dueHits(engine, "cat", "1=45 2=34 3=11");
        Calls.dueHits(engine, "title:cat", "1=34 2=34");
        Calls.dueHits(engine, "body:cat", "1=11 3=11");
    }

    private static void wordWithoutATerm() {
        Sentences.says("A WORD without a TERM matches all, with 0.");
        SearchEngine engine = Calls.engineOf(2, "cat", "the", "");
        Calls.dueHits(engine, "the", "1=0 2=0 3=0");
        Calls.dueHits(engine, "title:THE", "1=0 2=0 3=0");
        Calls.dueHits(engine, "the^9 cat", "1=14");
        Calls.dueHits(engine, "-the", "");
        SearchEngine other = Calls.engineOf(1, "cat", "the", "");
        Calls.dueHits(other, "the", "2=14");
    }

    private static void beginning() {
        Sentences.says("the FIELD has a TERM that begins so: matches, with 16 WEIGHT;");
        SearchEngine engine = Calls.engineOf(0, "cat", "catalog cat cats", "ca", "dog cat", "bat cbt cas cau", "0cat");
        Calls.dueHits(engine, "cat*", "1=16 2=16 4=16");
        Calls.dueHits(engine, "CAT*", "1=16 2=16 4=16");
        Calls.dueHits(engine, "c*", "1=16 2=16 3=16 4=16 5=16");
        Calls.dueHits(engine, "catalogs*", "");
        Calls.dueHits(engine, "z*", "");
        SearchEngine ends = Calls.engineOf(0, "0", "z", "zzzzzzzzzzzz", "09", "9a");
        Calls.dueHits(ends, "0*", "1=16 4=16");
        Calls.dueHits(ends, "z*", "2=16 3=16");
        Calls.dueHits(ends, "zzzzzzzzzzzz*", "3=16");
        Calls.dueHits(ends, "9*", "5=16");
    }

    private static void beginningOfTwelveBytes() {
        Sentences.says("WORD*: the WORD's letters small, its first 12 bytes, no more:");
        SearchEngine engine = Calls.engineOf(3, "abcdefghijklmn", "cats", "the then", "of", "glass");
        Calls.dueHits(engine, "abcdefghijk*", "1=16");
        Calls.dueHits(engine, "abcdefghijkl*", "1=16");
        Calls.dueHits(engine, "ABCDEFGHIJKLZZZ*", "1=16");
        Calls.dueHits(engine, "abcdefghijkz*", "");
        // No s goes, no stop is none.
        Calls.dueHits(engine, "cats*", "");
        Calls.dueHits(engine, "cat*", "2=16");
        Calls.dueHits(engine, "the*", "3=16");
        Calls.dueHits(engine, "of*", "");
        Calls.dueHits(engine, "glass*", "5=16");
    }

    private static void beginningInFields() {
        Sentences.says("with 16 WEIGHT; without FIELD as above.");
        SearchEngine engine = new SearchEngine(0);
        Calls.put(engine, 1, 0, 0, "cat", "cat cat");
        Calls.put(engine, 2, 0, 0, "cat cats", "");
        Calls.put(engine, 3, 0, 0, "", "cats");
        engine.refresh();
        engine.open();
        Calls.dueHits(engine, "cat*", "1=64 2=48 3=16");
        Calls.dueHits(engine, "title:cat*", "1=48 2=48");
        Calls.dueHits(engine, "body:cat*", "1=16 3=16");
    }

    private static void phraseNumbers() {
        Sentences.says("PHRASE: its WORDS' TERMS at their numbers in it, those without a TERM left out.");
        SearchEngine engine = Calls.engineOf(2, "a cat the dog", "cat dog", "cat owl dog", "cat owl owl dog");
        found(engine, "\"cat the dog\"", "13");
        found(engine, "\"cat dog\"", "2");
        found(engine, "\"cat the of dog\"", "4");
        found(engine, "\"the cat\"", "1234");
        found(engine, "\"cat the\"", "1234");
        found(engine, "\"the cat dog\"", "2");
        found(engine, "\"the the the the the the cat dog\"", "2");
        found(engine, "\"cat dog the\"", "2");
    }

    /** The keys of the hits, the least first. */
    private static void found(SearchEngine engine, String query, String keys) {
        Calls.ask(engine, 0, query);
        java.util.TreeSet<Long> got = new java.util.TreeSet<>();
        int hits = engine.told(4);
        for (int i = 0; i < hits; i++) {
            got.add(engine.key(i));
        }
        String text = got.toString().replaceAll("[^-0-9]", "");
        Calls.dueText("keys found by " + query, text, keys);
    }

    private static void phraseOccurrences() {
        Sentences.says("An occurrence begins at a POSITION p of the first TERM:");
        SearchEngine engine = Calls.engineOf(0, "cat dog", "owl cat dog", "dog cat", "dog", "cat",
            "owl owl owl cat dog owl");
        found(engine, "\"cat dog\"", "126");
        found(engine, "\"cat\"", "12356");
        found(engine, "\"dog\"~9", "12346");
        found(engine, "\"elk dog\"~9", "");
    }

    private static void phraseGaps() {
        Sentences.says("the others can be given POSITIONS, each greater than the one before by at least the "
            + "difference of their numbers,");
        SearchEngine engine = Calls.engineOf(2, "cat dog", "cat owl dog", "dog cat", "cat", "cat cat", "cat owl cat",
            "cat owl dog elk", "cat dog owl elk");
        found(engine, "\"cat the dog\"~9", "27");
        found(engine, "\"dog cat\"~9", "3");
        found(engine, "\"cat cat\"~9", "56");
        found(engine, "\"cat cat\"", "5");
        found(engine, "\"cat the cat\"", "6");
        found(engine, "\"cat dog the elk\"~9", "8");
        found(engine, "\"cat the dog elk\"~9", "7");
    }

    private static void phraseSlack() {
        Sentences.says("the last one at most n further from p than by its number");
        SearchEngine engine = new SearchEngine(0);
        for (int between = 0; between <= 12; between++) {
            Calls.put(engine, between, "cat" + " owl".repeat(between) + " dog");
        }
        engine.refresh();
        engine.open();
        for (int n = 0; n <= 9; n++) {
            Calls.due("~" + n, Calls.ask(engine, 0, "\"cat dog\"~" + n), n + 1);
            Calls.due("with a further word", Calls.ask(engine, 0, "\"cat owl dog\"~" + n), n + 1);
        }
        SearchEngine two = Calls.engineOf(0, "cat owl dog owl elk", "cat dog owl elk", "cat owl dog elk",
            "cat dog elk");
        found(two, "\"cat dog elk\"", "4");
        found(two, "\"cat dog elk\"~1", "234");
        found(two, "\"cat dog elk\"~2", "1234");
        // A WORD without a TERM has its number, but gives no more room.
        SearchEngine stops = Calls.engineOf(2, "cat owl dog", "cat owl owl dog", "cat dog");
        found(stops, "\"cat the dog\"", "1");
        found(stops, "\"cat the dog\"~1", "12");
        found(stops, "\"the cat dog\"~1", "13");
        found(stops, "\"cat dog the\"~1", "13");
    }

    private static void phraseWithoutSlack() {
        Sentences.says("(n 0 without ~).");
        SearchEngine engine = Calls.engineOf(0, "cat dog", "cat owl dog");
        found(engine, "\"cat dog\"", "1");
        found(engine, "\"cat dog\"~0", "1");
        found(engine, "\"cat dog\"~1", "12");
    }

    private static void phraseCount() {
        Sentences.says("TF: how many such p. The score is as of a WORD,");
        // N 1: each RARE 1.
        Calls.dueHits(Calls.engineOf(0, "a b a b"), "\"a b\"", "1=21");
        Calls.dueHits(Calls.engineOf(0, "a b a b"), "\"a b\"~9", "1=21");
        Calls.dueHits(Calls.engineOf(0, "a a b"), "\"a b\"", "1=11");
        Calls.dueHits(Calls.engineOf(0, "a a b"), "\"a b\"~1", "1=23");
        Calls.dueHits(Calls.engineOf(0, "a b b b"), "\"a b\"~9", "1=10");
        Calls.dueHits(Calls.engineOf(0, "a a a"), "\"a a\"", "1=23");
        Calls.dueHits(Calls.engineOf(0, "a a a"), "\"a a\"~9", "1=23");
        Calls.dueHits(Calls.engineOf(0, "a b a"), "\"a\"~9", "1=11");
        Calls.dueHits(Calls.engineOf(0, "a" + " a".repeat(199)), "\"a a\"", "1=122");
    }

    private static void phraseRareness() {
        Sentences.says("RARE being the sum over its TERMS.");
        SearchEngine engine = Calls.engineOf(2, "a cat dog", "cat", "cat", "owl");
        // N 4: cat DF 3, RARE 1; dog DF 1, RARE 3: 64 * 4 / 11 = 23; a is a stop.
        Calls.dueHits(engine, "\"cat dog\"", "1=23");
        Calls.dueHits(engine, "\"a cat dog the\"", "1=23");
        Calls.dueHits(engine, "\"dog\"", "1=17");
        SearchEngine twice = Calls.engineOf(0, "cat cat", "owl");
        // N 2, DF 1, RARE 2, and a TERM that is there twice counts twice: 64 * 4 / 10 = 25.
        Calls.dueHits(twice, "\"cat cat\"", "1=25");
    }

    private static void phraseInFields() {
        Sentences.says("RARE being the sum over its TERMS. Without FIELD as above.");
        SearchEngine engine = new SearchEngine(0);
        Calls.put(engine, 1, 0, 0, "cat dog", "cat dog");
        Calls.put(engine, 2, 0, 0, "cat dog", "dog cat");
        Calls.put(engine, 3, 0, 0, "cat", "dog");
        Calls.put(engine, 4, 0, 0, "", "cat dog");
        engine.refresh();
        engine.open();
        // Title: cat DF 3, RARE 1; dog DF 2, RARE 2: 64 * 3 * 3 / 10 = 57. Body: cat DF 3, dog DF 4: 64 * 2 / 10 = 12.
        Calls.dueHits(engine, "\"cat dog\"", "1=69 2=57 4=12");
        Calls.dueHits(engine, "title:\"cat dog\"", "1=57 2=57");
        Calls.dueHits(engine, "body:\"cat dog\"", "1=12 4=12");
    }

    private static void phraseWithoutATerm() {
        Sentences.says("Without a TERM it matches all, with 0.");
        SearchEngine engine = Calls.engineOf(2, "cat", "the of", "");
        Calls.dueHits(engine, "\"the of\"", "1=0 2=0 3=0");
        Calls.dueHits(engine, "title:\"the\"~9^9", "1=0 2=0 3=0");
        Calls.dueHits(engine, "-\"of the\"", "");
    }

    private static void ranges() {
        Sentences.says("RANGE: the number is a .. b: matches, with 0.");
        SearchEngine engine = new SearchEngine(0);
        int[] numbers = {-1000000000, -999999999, -1, 0, 1, 999999999, 1000000000, Integer.MIN_VALUE,
            Integer.MAX_VALUE};
        for (int i = 0; i < numbers.length; i++) {
            engine.add(i, numbers[i], -7);
        }
        engine.refresh();
        engine.open();
        found(engine, "[x -999999999 999999999]", "12345");
        found(engine, "[x -999999999 -1]", "12");
        found(engine, "[x 0 0]", "3");
        found(engine, "[x -0 -0]", "3");
        found(engine, "[x -1 1]", "234");
        found(engine, "[x 1 -1]", "");
        found(engine, "[x 2 999999998]", "");
        found(engine, "[x 999999999 999999999]", "5");
        found(engine, "[x 00 01]", "34");
        found(engine, "[y -7 -7]", "012345678");
        found(engine, "[y -6 7]", "");
        Calls.dueHits(engine, "[x 0 1]^9", "3=0 4=0");
    }

    private static void groups() {
        Sentences.says("( ANY ): as that.");
        SearchEngine engine = Calls.engineOf(0, "cat", "dog", "cat dog");
        Calls.dueHits(engine, "(cat)", "1=7 3=6");
        Calls.dueHits(engine, "((((((((cat))))))))", "1=7 3=6");
        Calls.dueHits(engine, "(cat | dog)", "3=12 1=7 2=7");
        Calls.dueHits(engine, "(cat dog)", "3=12");
        Calls.dueHits(engine, "(owl)", "");
    }

    private static void boosts() {
        Sentences.says("^ n: n times the score.");
        SearchEngine engine = Calls.engineOf(0, "cat", "dog", "cat dog");
        Calls.dueHits(engine, "cat^1", "1=7 3=6");
        Calls.dueHits(engine, "cat^9", "1=63 3=54");
        Calls.dueHits(engine, "(cat^2 | dog)^3", "3=54 1=42 2=21");
        Calls.dueHits(engine, "cat dog^2", "3=18");
        Calls.dueHits(engine, "\"cat dog\"^2", "3=24");
    }

    private static void nots() {
        Sentences.says("- ATOM: matches what it does not, with 0.");
        SearchEngine engine = Calls.engineOf(0, "cat", "dog", "cat dog");
        Calls.dueHits(engine, "-cat", "2=0");
        Calls.dueHits(engine, "-cat^9", "2=0");
        Calls.dueHits(engine, "-(-cat)", "1=0 3=0");
        Calls.dueHits(engine, "-title:cat", "1=0 2=0 3=0");
        Calls.dueHits(engine, "-(cat dog)", "1=0 2=0");
        Calls.dueHits(engine, "-(cat | dog)", "");
        Calls.dueHits(engine, "-[x 0 0]", "");
        Calls.dueHits(engine, "-\"cat dog\"", "1=0 2=0");
        Calls.dueHits(engine, "-ca*", "2=0");
        Calls.dueHits(engine, "-owl", "1=0 2=0 3=0");
    }

    private static void allParts() {
        Sentences.says("ALL: matches if each PART does; the score is the sum.");
        SearchEngine engine = Calls.engineOf(0, "cat", "dog", "cat dog");
        Calls.dueHits(engine, "cat cat cat", "1=21 3=18");
        Calls.dueHits(engine, "cat dog", "3=12");
        Calls.dueHits(engine, "cat -dog", "1=7");
        Calls.dueHits(engine, "cat dog owl", "");
        Calls.dueHits(engine, "owl cat", "");
        Calls.dueHits(engine, "cat ".repeat(40), "1=280 3=240");
    }

    private static void anyAll() {
        Sentences.says("ANY: if one ALL does; the sum of those that do.");
        SearchEngine engine = Calls.engineOf(0, "cat", "dog", "cat dog");
        Calls.dueHits(engine, "cat | dog", "3=12 1=7 2=7");
        Calls.dueHits(engine, "owl | dog", "2=7 3=6");
        Calls.dueHits(engine, "dog | owl", "2=7 3=6");
        Calls.dueHits(engine, "owl | elk", "");
        Calls.dueHits(engine, "cat dog | cat | dog owl", "3=18 1=7");
        Calls.dueHits(engine, "-cat | cat", "1=7 3=6 2=0");
        Calls.dueHits(engine, "cat |".repeat(39) + "cat", "1=280 3=240");
    }

    // Documents of a view have different keys, so the one added first never decides.
    private static void orderOfHits() {
        Sentences.says("HITS are those that match what the query is, the greatest score first, then the least KEY, "
            + "then the one added first.");
        SearchEngine engine = new SearchEngine(0);
        long[] keys = {9, -9, Long.MAX_VALUE, Long.MIN_VALUE, 0, 1L << 32, -(1L << 32), 3};
        for (long key : keys) {
            Calls.put(engine, key, key == 3 ? "cat cat" : "cat");
        }
        engine.refresh();
        engine.open();
        Calls.dueHits(engine, "cat", "3=12 -9223372036854775808=7 -4294967296=7 -9=7 0=7 9=7 4294967296=7"
            + " 9223372036854775807=7");
        SearchEngine all = new SearchEngine(0);
        for (int i = 0; i < 400; i++) {
            all.add((i * 7919L) % 400, i, 0);
        }
        all.refresh();
        all.open();
        Calls.due("all 400 are hits", Calls.ask(all, 0, "-cat"), 400);
        for (int i = 0; i < 400; i += 7) {
            Calls.due("key " + i, all.key(i), i);
        }
        SearchEngine scores = new SearchEngine(0);
        for (int i = 0; i < 40; i++) {
            Calls.put(scores, i, "b" + " a".repeat((i * 37) % 40));
        }
        scores.refresh();
        scores.open();
        Calls.ask(scores, 0, "b^9");
        for (int i = 1; i < 40; i++) {
            boolean more = scores.hit(i - 1, 0) > scores.hit(i, 0);
            boolean same = scores.hit(i - 1, 0) == scores.hit(i, 0) && scores.key(i - 1) < scores.key(i);
            Calls.due("hit " + i + " is not before hit " + (i - 1), more || same, true);
        }
    }

    private static void answerStays() {
        Sentences.says("An ANSWER has HITS of a VIEW; it stays when the VIEW is closed, till the next search() that "
            + "is not WRONG.");
        SearchEngine engine = Calls.engineOf(0, "cat dog", "cat");
        String due = "2=7 1=6";
        Calls.dueHits(engine, "cat", due);
        engine.close(0);
        Calls.dueText("the view is closed", Calls.hits(engine), due);
        Calls.due("wrong, as there is no view", Calls.ask(engine, 0, "dog"), SearchEngine.BAD);
        Calls.dueText("no view", Calls.hits(engine), due);
        engine.delete(1);
        engine.open();
        Calls.due("wrong", Calls.ask(engine, 0, "dog | (cat"), -20);
        Calls.dueText("wrong", Calls.hits(engine), due);
        Calls.due("its marks", engine.mark(1, BODY, true), 3);
        Calls.put(engine, 2, "owl");
        engine.refresh();
        Calls.near(engine, 0, "owl");
        Calls.frequency(engine, 0, 1, "owl");
        Calls.dueText("whatever comes", Calls.hits(engine), due);
        Calls.due("no hits", Calls.ask(engine, 0, "elk"), 0);
        Calls.dueText("a new answer", Calls.hits(engine), "");
        Calls.due("none of the old ones", engine.key(0), 0);
    }

    private static void refusals() {
        Sentences.says("Answers below 0, but KEYS, X, Y and their sums, are refusals and change nothing;");
        SearchEngine engine = Calls.engineOf(0, "cat", "dog");
        for (int i = 1; i < 4; i++) {
            engine.open();
        }
        Calls.ask(engine, 1, "cat");
        Calls.near(engine, 0, "cats");
        Calls.put(engine, 3, "owl");
        String before = state(engine);
        Calls.due("feed", engine.feed(-1, -1, 17), SearchEngine.BAD);
        Calls.due("add", Calls.put(engine, 1, 0, 0, "t".repeat(101), ""), SearchEngine.BAD);
        Calls.due("open", engine.open(), SearchEngine.FULL);
        Calls.due("close", engine.close(4), SearchEngine.BAD);
        Calls.due("search", Calls.ask(engine, 4, "dog"), SearchEngine.BAD);
        Calls.due("search", Calls.ask(engine, 0, "dog)"), -13);
        Calls.due("hit", engine.hit(0, 6), SearchEngine.BAD);
        Calls.due("hit", engine.hit(1, 0), SearchEngine.NONE);
        Calls.due("bucket", engine.bucket(0, 0, 0), SearchEngine.BAD);
        Calls.due("over", engine.over(2, 0), SearchEngine.BAD);
        Calls.due("mark", engine.mark(0, 2, true), SearchEngine.BAD);
        Calls.due("near", Calls.near(engine, 0, "elephant"), SearchEngine.NONE);
        Calls.due("near", Calls.near(engine, 4, "dog"), SearchEngine.BAD);
        Calls.due("near", Calls.near(engine, 0, "dog!"), SearchEngine.BAD);
        Calls.due("nearByte", engine.nearByte(9), SearchEngine.NONE);
        Calls.due("segment", engine.segment(0, 5), SearchEngine.BAD);
        Calls.due("view", engine.view(0, 3), SearchEngine.BAD);
        Calls.due("frequency", Calls.frequency(engine, 0, 2, "dog"), SearchEngine.BAD);
        Calls.due("told", engine.told(7), SearchEngine.BAD);
        Calls.dueText("all is as before", state(engine), before);
        SearchEngine numbers = new SearchEngine(0);
        Calls.say(numbers, "\0cat");
        numbers.add(-3, -2, -1);
        numbers.refresh();
        numbers.open();
        Calls.dueHits(numbers, "cat", "-3=7");
        Calls.due("an x below 0", numbers.hit(0, 1), -2);
        Calls.due("a y below 0", numbers.hit(0, 2), -1);
        Calls.due("a sum below 0", numbers.over(0, 0), -2);
    }

    private static String state(SearchEngine engine) {
        StringBuilder text = new StringBuilder(Calls.hits(engine)).append('/').append(Calls.nearest(engine));
        for (int what = 0; what < 7; what++) {
            text.append('/').append(engine.told(what));
        }
        for (int what = 0; what < 5; what++) {
            text.append('/').append(engine.segment(0, what)).append('/').append(engine.view(0, what));
        }
        return text.append(engine.mark(0, 1, false)).append(engine.mark(0, 1, true)).toString();
    }

    private static void tapeIsUsedUp() {
        Sentences.says("but what reads the TAPE uses it up.");
        SearchEngine engine = Calls.engineOf(0, "cat");
        Calls.due("search", Calls.ask(engine, 0, "cat"), 1);
        dueEmptyTape(engine, "search");
        Calls.due("search", Calls.ask(engine, 0, "cat)"), -13);
        dueEmptyTape(engine, "a wrong search");
        Calls.due("search", Calls.ask(engine, 2, "cat"), SearchEngine.BAD);
        dueEmptyTape(engine, "search of no view");
        Calls.due("near", Calls.near(engine, 0, "cat"), 0);
        dueEmptyTape(engine, "near");
        Calls.due("near", Calls.near(engine, 0, "elephant"), SearchEngine.NONE);
        dueEmptyTape(engine, "near that finds none");
        Calls.due("near", Calls.near(engine, 0, "cat!"), SearchEngine.BAD);
        dueEmptyTape(engine, "near of no word");
        Calls.due("near", Calls.near(engine, 2, "cat"), SearchEngine.BAD);
        dueEmptyTape(engine, "near in no view");
        Calls.due("frequency", Calls.frequency(engine, 0, 1, "cat"), 1);
        dueEmptyTape(engine, "frequency");
        Calls.due("frequency", Calls.frequency(engine, 0, 2, "cat"), SearchEngine.BAD);
        dueEmptyTape(engine, "frequency in no field");
        Calls.due("frequency", Calls.frequency(engine, 2, 1, "cat"), SearchEngine.BAD);
        dueEmptyTape(engine, "frequency in no view");
        Calls.due("frequency", Calls.frequency(engine, 0, 1, "cat!"), SearchEngine.BAD);
        dueEmptyTape(engine, "frequency of no word");
        Calls.due("add", Calls.put(engine, 2, "cat"), 2);
        dueEmptyTape(engine, "add");
        Calls.due("add", Calls.put(engine, 2, 0, 0, "t".repeat(101), ""), SearchEngine.BAD);
        dueEmptyTape(engine, "add of too much");
        Calls.say(engine, "cat");
        engine.feed(0, 0, 0);
        engine.delete(7);
        engine.refresh();
        engine.open();
        engine.close(3);
        engine.hit(0, 0);
        engine.mark(0, 0, false);
        engine.nearByte(-1);
        engine.segment(0, 0);
        engine.view(0, 0);
        engine.told(0);
        engine.over(0, 0);
        engine.bucket(0, 0, 1);
        engine.key(0);
        Calls.due("what doesn't read it leaves it", engine.frequency(0, 1), 1);
        SearchEngine full = new SearchEngine(0);
        for (int i = 0; i < 400; i++) {
            full.add(i, 0, 0);
        }
        Calls.due("add", Calls.put(full, 1, "cat"), SearchEngine.FULL);
        dueEmptyTape(full, "add of one too many");
    }

    private static void dueEmptyTape(SearchEngine engine, String call) {
        Calls.due("a word behind " + call, engine.frequency(0, 1), SearchEngine.BAD);
        Calls.due("a byte behind " + call, engine.feed(0x6400000000000000L, 0, 1), 1);
        engine.frequency(0, 1);
    }
}
