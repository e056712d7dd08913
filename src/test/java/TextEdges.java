/** A test for each sentence of "TEXTS". */
final class TextEdges {
    private static final int BODY = 1;
    private static final String[] STOPS = {"a", "an", "and", "in", "is", "it", "of", "on", "or", "the", "to"};

    private TextEdges() { }

    static void run() {
        textsAreBytes();
        whereTokensEnd();
        positions();
        smallLetters();
        firstTwelveBytes();
        stems();
        stemsAfterTheCut();
        anotherS();
        stops();
        stopsAsTerms();
        stopsKeepTheirPosition();
    }

    /** The term of a text of one token, as near() and nearByte() tell it; "": it has none. */
    private static String termOf(int how, String token) {
        SearchEngine engine = Calls.engineOf(how, token);
        if (engine.segment(0, 4) == 0) {
            return "";
        }
        Calls.near(engine, 0, token);
        return Calls.nearest(engine);
    }

    private static void dueTerm(int how, String token, String term) {
        Calls.dueText("the term of " + token + " of an engine " + how, termOf(how, token), term);
    }

    private static void textsAreBytes() {
        Sentences.says("TEXTS are rows of bytes.");
        String most = "\u00ff".repeat(100);
        SearchEngine engine = new SearchEngine(0);
        Calls.due("100 bytes above 127", Calls.put(engine, 1, 0, 0, most, most.repeat(4)), 1);
        Calls.due("101 bytes above 127", Calls.put(engine, 1, 0, 0, most + "\u00ff", ""), -2);
        Calls.due("401 bytes above 127", Calls.put(engine, 1, 0, 0, "", most.repeat(4) + "\u00ff"), -2);
    }

    // A byte between two letters leaves one token, if it is a letter or digit, and two, if it is none.
    private static void whereTokensEnd() {
        Sentences.says("TOKENS are the longest rows of letters (A .. Z, a .. z) and digits in one;");
        for (int half = 0; half < 256; half += 128) {
            SearchEngine engine = new SearchEngine(0);
            for (int b = half; b < half + 128; b++) {
                Calls.put(engine, b, "q" + (char) b + "q");
            }
            engine.refresh();
            engine.open();
            Calls.due("all", Calls.ask(engine, 0, "-[x 1 1]"), 128);
            for (int i = 0; i < 128; i++) {
                int b = half + i;
                boolean one = b >= '0' && b <= '9' || b >= 'A' && b <= 'Z' || b >= 'a' && b <= 'z';
                Calls.due("tokens around byte " + b, engine.hit(i, 4), one ? 1 : 2);
            }
        }
        SearchEngine rows = Calls.engineOf(0, "a1B2-3c4D");
        Calls.ask(rows, 0, "3C4d");
        Calls.due("letters and digits in one", rows.hit(0, 4), 2);
        Calls.due("the row's length", rows.mark(0, BODY, true), 4);
        SearchEngine longest = Calls.engineOf(0, "z".repeat(400));
        Calls.ask(longest, 0, "z*");
        Calls.due("one row of 400 bytes", longest.hit(0, 4), 1);
        Calls.due("its length", longest.mark(0, BODY, true), 400);
        SearchEngine none = Calls.engineOf(0, " .,!");
        Calls.ask(none, 0, "[x 0 0]");
        Calls.due("no row", none.hit(0, 4), 0);
    }

    private static void positions() {
        Sentences.says("the first is at POSITION 0, the next at 1, and so on.");
        SearchEngine engine = Calls.engineOf(0, "  cat -- dog, \0red");
        Calls.due("next to one another", Calls.ask(engine, 0, "\"cat dog red\""), 1);
        Calls.due("0 and 2", Calls.ask(engine, 0, "\"cat red\""), 0);
        Calls.due("0 and 2, one further", Calls.ask(engine, 0, "\"cat red\"~1"), 1);
    }

    private static void smallLetters() {
        Sentences.says("A TOKEN'S TERM: its letters small,");
        dueTerm(0, "AZaz09", "azaz09");
        dueTerm(0, "ZEBRA", "zebra");
        SearchEngine engine = Calls.engineOf(0, "Cat CAT cat cAt");
        Calls.due("one term", engine.segment(0, 4), 1);
    }

    private static void firstTwelveBytes() {
        Sentences.says("its first 12 bytes;");
        dueTerm(0, "abcdefghijk", "abcdefghijk");
        dueTerm(0, "abcdefghijkl", "abcdefghijkl");
        dueTerm(0, "abcdefghijklm", "abcdefghijkl");
        dueTerm(0, "z".repeat(400), "zzzzzzzzzzzz");
        dueTerm(0, "0", "0");
        SearchEngine engine = Calls.engineOf(0, "abcdefghijk abcdefghijkl abcdefghijklm abcdefghijklmn");
        Calls.due("two terms", engine.segment(0, 4), 2);
    }

    private static void stems() {
        Sentences.says("then, if the engine STEMS, an s at the end of 4 bytes or more goes,");
        dueTerm(1, "s", "s");
        dueTerm(1, "as", "as");
        dueTerm(1, "bus", "bus");
        dueTerm(1, "cats", "cat");
        dueTerm(1, "CATS", "cat");
        dueTerm(1, "123s", "123");
        dueTerm(1, "houses", "house");
        dueTerm(1, "sxsxs", "sxsx");
        dueTerm(1, "cast", "cast");
        dueTerm(0, "cats", "cats");
        dueTerm(2, "cats", "cats");
        dueTerm(3, "cats", "cat");
    }

    private static void stemsAfterTheCut() {
        Sentences.says("its first 12 bytes; then, if the engine STEMS, an s at the end");
        dueTerm(1, "abcdefghijs", "abcdefghij");
        dueTerm(1, "abcdefghijks", "abcdefghijk");
        dueTerm(1, "abcdefghijkls", "abcdefghijkl");
        dueTerm(1, "abcdefghijksx", "abcdefghijk");
        dueTerm(1, "abcdefghijkss", "abcdefghijk");
    }

    private static void anotherS() {
        Sentences.says("unless another s is before it.");
        dueTerm(1, "glass", "glass");
        dueTerm(1, "glaSs", "glass");
        dueTerm(1, "GLASS", "glass");
        dueTerm(1, "xass", "xass");
        dueTerm(1, "ssss", "ssss");
        dueTerm(1, "ssas", "ssa");
        dueTerm(1, "abcdefghijss", "abcdefghijss");
        dueTerm(1, "abcdefghijssx", "abcdefghijss");
    }

    private static void stops() {
        Sentences.says("If it STOPS: a, an, and, in, is, it, of, on, or, the, to");
        for (String stop : STOPS) {
            dueTerm(0, stop, stop);
            dueTerm(1, stop, stop);
            dueTerm(2, stop, "");
            dueTerm(3, stop, "");
        }
        String[] others = {"b", "i", "o", "t", "th", "as", "at", "am", "ant", "ann", "ands", "andy", "be", "by", "if",
            "inn", "iss", "its", "off", "one", "ore", "then", "them", "too", "tos", "he", "no", "not", "s", "0",
            "a0", "0a"};
        for (String other : others) {
            dueTerm(2, other, other);
        }
    }

    private static void stopsAsTerms() {
        Sentences.says("(as TERMS) are none:");
        dueTerm(2, "THE", "");
        dueTerm(2, "A", "");
        dueTerm(3, "ands", "");
        dueTerm(3, "THES", "");
        dueTerm(3, "thess", "thess");
        // Three bytes keep their s, so these are not stops.
        dueTerm(3, "its", "its");
        dueTerm(3, "ins", "ins");
        dueTerm(3, "ors", "ors");
        dueTerm(1, "ands", "and");
    }

    private static void stopsKeepTheirPosition() {
        Sentences.says("such a TOKEN has no TERM, but its POSITION.");
        SearchEngine engine = Calls.engineOf(2, "the cat of dog the");
        Calls.due("two terms", engine.segment(0, 4), 2);
        Calls.due("not next to one another", Calls.ask(engine, 0, "\"cat dog\""), 0);
        Calls.due("one further", Calls.ask(engine, 0, "\"cat dog\"~1"), 1);
        Calls.due("stops count as tokens", engine.hit(0, 4), 5);
        SearchEngine alone = Calls.engineOf(2, "the");
        Calls.due("no term at all", alone.segment(0, 4), 0);
        Calls.due("a beginning of none", Calls.ask(alone, 0, "t*"), 0);
        Calls.due("none is near", Calls.near(alone, 0, "the"), -1);
    }
}
