import java.nio.file.Files;
import java.nio.file.Path;

/** The sentences of the document that tests stand beside: each must stand there, and none of it may be left out. */
final class Sentences {
    private static final Path DOCUMENT = Path.of("../shared/DOC.md");
    private static String text;
    private static boolean[] quoted;
    private static String sentence = "";
    private static boolean tested = true;

    private Sentences() { }

    /** Begins the test of a sentence, or of a part of one, that stands so in the document. */
    static void says(String quote) {
        end();
        read();
        sentence = quote;
        tested = false;
        int place = text.indexOf(quote);
        if (place < 0) {
            Calls.wrong++;
            System.out.println("the document doesn't say: " + quote);
        }
        while (place >= 0) {
            java.util.Arrays.fill(quoted, place, place + quote.length(), true);
            place = text.indexOf(quote, place + 1);
        }
    }

    /** An answer was looked at. */
    static void tests() {
        tested = true;
    }

    static String told() {
        return sentence.isEmpty() ? "" : "\n    where the document says: " + sentence;
    }

    private static void end() {
        if (!tested) {
            Calls.wrong++;
            System.out.println("no test of: " + sentence);
        }
    }

    /** Looks for what no test stands beside. */
    static void dueAll() {
        end();
        read();
        sentence = "";
        int from = 0;
        while (from < quoted.length) {
            int to = from;
            while (to < quoted.length && !quoted[to]) {
                to++;
            }
            String left = text.substring(from, to).trim();
            if (!left.isEmpty()) {
                Calls.wrong++;
                System.out.println("no test stands beside: " + left);
            }
            from = to + 1;
        }
    }

    // Of the document: from its first sentence to the last promise, without headings and the face, blanks one by one.
    private static void read() {
        if (text != null) {
            return;
        }
        try {
            String all = Files.readString(DOCUMENT);
            String part = all.substring(all.indexOf("======== 1"), all.indexOf("## Not promised"));
            text = part.replaceAll("(?s)```java.*?```", " ").replaceAll("(?m)^(##|```).*$", " ")
                .replaceAll("======== \\d", " ").replaceAll("\\s+", " ");
            quoted = new boolean[text.length()];
        } catch (java.io.IOException e) {
            throw new IllegalStateException(e);
        }
    }
}
