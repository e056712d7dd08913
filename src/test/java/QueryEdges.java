/** A test for each sentence of "QUERIES". */
final class QueryEdges {
    private QueryEdges() { }

    static void run() {
        blanks();
        longWords();
        pieces();
        any();
        all();
        part();
        boost();
        atom();
        field();
        phrase();
        slack();
        eightWords();
        range();
        digits();
        eightWithinOneAnother();
        fortyParts();
        firstWrongPiece();
        firstByte();
        aNinthBracket();
        aNinthWord();
        aFortyFirstPart();
        moreMustCome();
        aByteThatIsNone();
        aWordToldOtherwise();
    }

    // An engine is used for 512 calls only, so each query has one of its own.
    private static SearchEngine engine() {
        return Calls.engineOf(0, "cat dog cat1 title");
    }

    private static void right(String... queries) {
        for (String query : queries) {
            Calls.dueRight(engine(), query);
        }
    }

    private static void wrong(String query, int place) {
        SearchEngine engine = engine();
        Calls.dueWrong(engine, query, place);
        Calls.due("no answer to " + query, engine.told(5), SearchEngine.NONE);
    }

    private static void found(String query, int hits) {
        Calls.due("search of " + query, Calls.ask(engine(), 0, query), hits);
    }

    private static void blanks() {
        Sentences.says("QUERIES are texts of these pieces, blanks (32) between as may be:");
        found("cat", 1);
        found("   cat   ", 1);
        found(" title : cat * ^ 2 ", 0);
        found(" body : cat * ^ 2 ", 1);
        found(" body : \" cat dog \" ~ 0 ^ 9 ", 1);
        found("body:\"cat dog\"~0^9", 1);
        found("- ( cat | dog ) | [ x - 1 - 0 ]", 1);
        found("-(cat|dog)|[x-1-0]", 1);
        found("[y 0  0]", 1);
        found(" ".repeat(596) + "cat ", 1);
        wrong("cat\tdog", 3);
        wrong("cat\ndog", 3);
        wrong("cat\u00a0dog", 3);
        wrong("cat\0dog", 3);
        wrong("ti tle : cat", 7);
        wrong("cat ^ 1 2 ^ ^", 12);
    }

    private static void longWords() {
        Sentences.says("WORDS, each as long as can be: letters and digits;");
        found("cat1", 1);
        found("cat2", 0);
        found("1", 0);
        found("z".repeat(600), 0);
        found("ca t1", 0);
        wrong("cat^2a", 4);
        wrong("\"cat\"~1a", 6);
        wrong("[x1 2]", 1);
        wrong("xtitle:cat", 6);
    }

    private static void pieces() {
        Sentences.says("( ) | - * \" : ~ ^ [ ].");
        for (int b = 0; b < 256; b++) {
            char c = (char) b;
            boolean word = b < 128 && Character.isLetterOrDigit(c);
            if (word) {
                right("" + c);
            } else {
                boolean mayBegin = c == ' ' || c == '(' || c == '"' || c == '[' || c == '-';
                wrong("" + c, mayBegin ? 1 : 0);
            }
            boolean mayFollow = word || c == ' ' || c == '*';
            boolean wantsMore = c == '(' || c == '"' || c == '[' || c == '-' || c == '|' || c == '^';
            if (mayFollow) {
                right("cat" + c);
            } else {
                wrong("cat" + c, wantsMore ? 4 : 3);
            }
        }
        right("title:cat", "\"cat\"~1", "(cat)", "[x 1 2]");
    }

    private static void any() {
        Sentences.says("ANY: ALL { | ALL }.");
        found("cat | owl", 1);
        found("owl | cat", 1);
        found("owl | elk | cat", 1);
        found("owl | elk", 0);
        wrong("", 0);
        wrong("|", 0);
        wrong("| cat", 0);
        wrong("cat |", 5);
        wrong("cat || dog", 5);
        wrong("(| cat)", 1);
        wrong("(cat |)", 6);
    }

    private static void all() {
        Sentences.says("ALL: PART { PART }.");
        found("cat dog", 1);
        found("cat owl", 0);
        found("cat dog | owl", 1);
        found("cat owl | dog elk", 0);
        found("cat owl | dog cat", 1);
        found("cat(dog)[x 0 0]\"cat dog\"-owl", 1);
    }

    private static void part() {
        Sentences.says("PART: [-] ATOM");
        found("-cat", 0);
        found("-owl", 1);
        found("-(owl) -\"owl\" -[x 1 1] -body:owl -owl*", 1);
        wrong("-", 1);
        wrong("--cat", 1);
        wrong("cat -", 5);
        wrong("-|cat", 1);
        wrong("-)", 1);
        wrong("-^2", 1);
        wrong("(-)", 2);
        wrong("title:-cat", 6);
    }

    private static void boost() {
        Sentences.says("[^ n], n 1 to 9 (a WORD).");
        for (int n = 1; n <= 9; n++) {
            SearchEngine engine = engine();
            Calls.ask(engine, 0, "cat^" + n);
            // LEN 4: 64 / 12 = 5.
            Calls.due("times " + n, engine.hit(0, 0), 5 * n);
        }
        right("-cat^2", "(cat)^2", "[x 0 0]^2", "\"cat\"^2", "\"cat\"~1^2", "cat*^2", "title:cat^2", "cat^2 dog^3");
        wrong("cat^0", 4);
        wrong("cat^10", 4);
        wrong("cat^19", 4);
        wrong("cat^99999999999999999999", 4);
        wrong("cat^01", 4);
        wrong("cat^a", 4);
        wrong("cat^-1", 4);
        wrong("cat^", 4);
        wrong("cat^ ", 5);
        wrong("cat^^2", 4);
        wrong("cat^2^3", 5);
        wrong("^2", 0);
        wrong("^2 cat", 0);
        wrong("cat^2*", 5);
        wrong("cat^(2)", 4);
    }

    private static void atom() {
        Sentences.says("ATOM: ( ANY ) | RANGE | [FIELD :] WORD [*] | [FIELD :] PHRASE.");
        found("(cat)", 1);
        found("(cat | owl)", 1);
        found("((cat) (owl | dog))", 1);
        found("ca*", 1);
        found("body:ca*", 1);
        found("title:ca*", 0);
        found("body:\"dog cat1\"", 1);
        found("title:\"dog cat1\"", 0);
        wrong("()", 1);
        wrong("( )", 2);
        wrong(")", 0);
        wrong("cat)", 3);
        wrong("(cat", 4);
        wrong("(cat))", 5);
        wrong("(cat]", 4);
        wrong("*", 0);
        wrong("* cat", 0);
        wrong("cat**", 4);
        wrong("(cat)*", 5);
        wrong("\"cat\"*", 5);
        wrong("[x 0 0]*", 7);
        wrong("]", 0);
        wrong("cat]", 3);
        wrong("~", 0);
        wrong("title:(cat)", 6);
        wrong("title:[x 0 0]", 6);
    }

    private static void field() {
        Sentences.says("FIELD: title or body (a WORD that a : stands behind).");
        found("title", 1);
        found("body", 0);
        found("title*", 1);
        found("\"title\"", 1);
        found("body:title", 1);
        found("body:body", 0);
        found("title title", 1);
        wrong("title:", 6);
        wrong("title: ", 7);
        wrong("body:*", 5);
        wrong("body:)", 5);
        wrong("title::cat", 6);
        wrong("title:body:cat", 10);
        wrong("cat:dog", 3);
        wrong("Title:cat", 5);
        wrong("BODY:cat", 4);
        wrong("titles:cat", 6);
        wrong("bod:cat", 3);
        wrong(":cat", 0);
        wrong("\"title:cat\"", 6);
        wrong("title*:cat", 6);
        wrong("\"title\":cat", 7);
        wrong("(title):cat", 7);
    }

    private static void phrase() {
        Sentences.says("PHRASE: \" WORD { WORD } \"");
        found("\"cat\"", 1);
        found("\"cat dog\"", 1);
        found("\"dog cat\"", 0);
        wrong("\"", 1);
        wrong("\"\"", 1);
        wrong("\" \"", 2);
        wrong("\"cat", 4);
        wrong("\"cat dog ", 9);
        wrong("\"cat*\"", 4);
        wrong("\"-cat\"", 1);
        wrong("\"cat | dog\"", 5);
        wrong("\"(cat)\"", 1);
        wrong("\"cat\"\"", 6);
        wrong("\"cat, dog\"", 4);
    }

    private static void slack() {
        Sentences.says("[~ n], n 0 to 9 (a WORD),");
        for (int n = 0; n <= 9; n++) {
            right("\"cat dog\"~" + n);
        }
        wrong("\"cat\"~", 6);
        wrong("\"cat\"~ ", 7);
        wrong("\"cat\"~10", 6);
        wrong("\"cat\"~00", 6);
        wrong("\"cat\"~a", 6);
        wrong("\"cat\"~-1", 6);
        wrong("\"cat\"~^2", 6);
        wrong("\"cat\"~1~1", 7);
        wrong("\"cat\"^2~1", 7);
        wrong("cat~1", 3);
        wrong("cat*~1", 4);
        wrong("(\"cat\")~1", 7);
        wrong("[x 0 0]~1", 7);
    }

    private static void eightWords() {
        Sentences.says("8 WORDS at most.");
        right("\"a b c d e f g h\"", "\"a b c d e f g h\"~9", "title:\"a b c d e f g h\"", "\"a\" \"b c d e f g h i\"");
        wrong("\"a b c d e f g h i\"", 17);
        wrong("\"a b c d e f g h", 16);
        SearchEngine stops = Calls.engineOf(2, "cat");
        Calls.dueWrong(stops, "\"the the the the the the the the cat\"", 33);
        Calls.dueRight(stops, "\"the the the the the the the cat\"");
    }

    private static void range() {
        Sentences.says("RANGE: [ x a b ] or [ y a b ],");
        right("[x 1 2]", "[y 1 2]", "[x 2 1]", "[x 0 0]", "[ y -0 -0 ]");
        wrong("[", 1);
        wrong("[x", 2);
        wrong("[x 1", 4);
        wrong("[x 1 2", 6);
        wrong("[x 1 2 ", 7);
        wrong("[]", 1);
        wrong("[x]", 2);
        wrong("[x 1]", 4);
        wrong("[x 1 2 3]", 7);
        wrong("[X 1 2]", 1);
        wrong("[Y 1 2]", 1);
        wrong("[z 1 2]", 1);
        wrong("[xx 1 2]", 1);
        wrong("[1 2]", 1);
        wrong("[-x 1 2]", 1);
        wrong("[x:1 2]", 2);
        wrong("[x 1 2)", 6);
        wrong("[x 1|2]", 4);
    }

    private static void digits() {
        Sentences.says("a and b being perhaps -, then a WORD of 1 to 9 digits.");
        right("[x 999999999 999999999]", "[x -999999999 -999999999]", "[x 000000000 000000001]", "[x-1-1]", "[x 1- 1]",
            "[x - 1 - 1]");
        wrong("[x 1000000000 1]", 3);
        wrong("[x 1 1000000000]", 5);
        wrong("[x 0000000001 1]", 3);
        wrong("[x -1000000000 1]", 4);
        wrong("[x 1 -1000000000]", 6);
        wrong("[x --1 1]", 4);
        wrong("[x 1 --1]", 6);
        wrong("[x - 1]", 6);
        wrong("[x -]", 4);
        wrong("[x 1 -]", 6);
        wrong("[x 1 -", 6);
        wrong("[x 1a 1]", 3);
        wrong("[x 1 a1]", 5);
        wrong("[x a b]", 3);
    }

    private static void eightWithinOneAnother() {
        Sentences.says("( stand at most 8 within one another,");
        right("((((((((cat))))))))", "-(-(-(-(-(-(-(-(cat))))))))", "((((((((cat)))))))) ((((((((cat))))))))",
            "(((((((  (cat) (dog) (cat | dog) )))))))", "(cat)".repeat(20));
        wrong("(((((((((cat)))))))))", 8);
        wrong("((((((((cat (dog)))))))))", 12);
        wrong("(((((((( (((((((", 9);
    }

    private static void fortyParts() {
        Sentences.says("PARTS are at most 40 (those within others, too).");
        String forty = "a" + " a".repeat(39);
        right(forty, forty.replace(' ', '|'), "(a)".repeat(20), "(" + " a".repeat(39) + ")", "-a".repeat(40),
            "((((((((" + " a".repeat(32) + "))))))))", "\"a b c d e f g h\"".repeat(33) + " a".repeat(7));
        wrong(forty + " a", 80);
        wrong(forty.replace(' ', '|') + "|a", 80);
        wrong("(a)".repeat(20) + "a", 60);
        wrong("(" + " a".repeat(40) + ")", 80);
        wrong("((((((((" + " a".repeat(33) + "))))))))", 73);
    }

    private static void firstWrongPiece() {
        Sentences.says("A query is WRONG at the first piece that can't stand where it stands");
        wrong("cat ) ) ,", 4);
        wrong("| ,", 0);
        wrong("cat^0 dog^0", 4);
        wrong("(cat | ) [z", 7);
        wrong(", )", 0);
        wrong("\"a b c d e f g h i j", 17);
        wrong("title:cat:dog ]", 9);
    }

    private static void firstByte() {
        Sentences.says("(its first byte;");
        wrong("cat^  1000", 6);
        wrong("   ) cat", 3);
        wrong("[   zebra 1 2]", 4);
        wrong("\"cat\"~  1000", 8);
    }

    private static void aNinthBracket() {
        Sentences.says("a 9th (,");
        wrong("(((((((((", 8);
        wrong("((((((((", 8);
        wrong("( ( ( ( ( ( ( ( ( cat", 16);
        wrong("((((((((cat | (dog", 14);
        wrong("((((((((-(cat", 9);
    }

    private static void aNinthWord() {
        Sentences.says("a 9th WORD of a PHRASE,");
        wrong("body : \"a b c d e f g h   ninth tenth\"", 26);
        wrong("\"a b c d e f g h\" \"a b c d e f g h i\"", 35);
    }

    private static void aFortyFirstPart() {
        Sentences.says("a 41st PART at its first piece;");
        String forty = "a ".repeat(40);
        wrong(forty + "-cat", 80);
        wrong(forty + "(cat)", 80);
        wrong(forty + "[x 1 1]", 80);
        wrong(forty + "\"cat\"", 80);
        wrong(forty + "title:cat", 80);
        wrong(forty + "  cat", 82);
        wrong(forty + "| - cat", 82);
        wrong("a ".repeat(39) + "(cat)", 79);
        wrong("a ".repeat(39) + "-(- cat)", 80);
        wrong(forty + ")", 80);
        wrong(forty + "|)", 81);
        wrong(forty + "|", 81);
        right("a ".repeat(39) + "title:cat^9");
    }

    private static void moreMustCome() {
        Sentences.says("the length, when more must come;");
        wrong("", 0);
        wrong(" ", 1);
        wrong(" ".repeat(600), 600);
        wrong("cat |  ", 7);
        wrong("(", 1);
        wrong("(cat  ", 6);
        wrong("-  ", 3);
        wrong("title:", 6);
        wrong("\"cat  ", 6);
        wrong("[y -1  ", 7);
        wrong("a".repeat(599) + "^", 600);
    }

    private static void aByteThatIsNone() {
        Sentences.says("a byte that is none;");
        for (int b = 0; b < 256; b++) {
            char c = (char) b;
            boolean piece = b < 128 && Character.isLetterOrDigit(c) || "()|-*\":~^[] ".indexOf(c) >= 0;
            if (!piece) {
                wrong("cat " + c, 4);
                wrong("(" + c + ")", 1);
                wrong("\"cat" + c + "\"", 4);
            }
        }
    }

    private static void aWordToldOtherwise() {
        Sentences.says("a WORD told otherwise than here).");
        wrong("cat ^ 0", 6);
        wrong("\"cat\" ~ 10", 8);
        wrong("[ z 1 1 ]", 2);
        wrong("[ x 1 1b ]", 6);
        wrong("[ x 1 1234567890 ]", 6);
        wrong("[ title 1 1 ]", 2);
    }
}
