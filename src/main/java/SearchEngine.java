/** Texts found by words. The numbered promises of ../shared/DOC.md tell what each public method answers. */
public final class SearchEngine {
    public static final int NONE = -1, BAD = -2, FULL = -3;

    private static final int TITLE = 0;
    private static final int BODY = 1;
    private static final int FIELDS = 2;
    private static final int EITHER_FIELD = -1;
    private static final int NUMBERS = 2;

    private static final int FEED_BYTES = 16;
    private static final int TAPE_BYTES = 600;
    private static final int TITLE_BYTES = 100;
    private static final int BODY_BYTES = 400;
    private static final int MOST_DOCUMENTS = 400;
    private static final int FULL_BUFFER = 16;
    private static final int MERGED_SEGMENTS = 4;
    // 400 documents make at most 400 segments of level 0, so no level is above 4; at rest
    // a level has at most 3 segments, and one more stands for a moment before a merge.
    private static final int MOST_SEGMENTS = 16;
    private static final int MOST_LEVELS = 6;
    private static final int MOST_VIEWS = 4;

    private static final int MOST_PARTS = 40;
    private static final int MOST_NESTED = 8;
    private static final int PHRASE_WORDS = 8;
    private static final int RANGE_DIGITS = 9;
    private static final int FIRST_PLACE = -10;

    private static final int MOST_SCORE = 1000000000;
    private static final int NO_MATCH = -1;
    private static final int MOST_EDITS = 2;

    private final Speller speller;
    private final byte[] tape;
    private int tapeLength;
    private final Document[] documents;
    private int added;
    private int bufferStart;
    private final Segment[] segments;
    private int segmentCount;
    private int merges;
    private final Document[] gathered;
    private int gatheredCount;
    private final View[] views;
    private final Answer answer;
    private Query spareQuery;
    private final Neighbour neighbour;

    public SearchEngine(int how) {
        speller = new Speller((how & 1) != 0, (how & 2) != 0);
        tape = new byte[TAPE_BYTES];
        documents = new Document[MOST_DOCUMENTS];
        segments = new Segment[MOST_SEGMENTS];
        gathered = new Document[MOST_DOCUMENTS];
        views = new View[MOST_VIEWS];
        for (int i = 0; i < MOST_VIEWS; i++) {
            views[i] = new View();
        }
        answer = new Answer();
        spareQuery = new Query();
        neighbour = new Neighbour();
    }

    public int feed(long a, long b, int n) {
        if (n < 1 || n > FEED_BYTES) {
            return BAD;
        }
        if (tapeLength + n > TAPE_BYTES) {
            return FULL;
        }
        for (int i = 0; i < n; i++) {
            long half = i < 8 ? a : b;
            tape[tapeLength] = (byte) (half >>> (56 - 8 * (i & 7)));
            tapeLength++;
        }
        return tapeLength;
    }

    public int add(long key, int x, int y) {
        int length = takeTape();
        int titleEnd = firstZero(length);
        int bodyStart = Math.min(titleEnd + 1, length);
        if (titleEnd > TITLE_BYTES || length - bodyStart > BODY_BYTES) {
            return BAD;
        }
        if (added >= MOST_DOCUMENTS) {
            return FULL;
        }
        drop(key);
        Text title = new Text(tape, 0, titleEnd, speller);
        Text body = new Text(tape, bodyStart, length, speller);
        documents[added] = new Document(key, x, y, added, title, body);
        added++;
        if (liveInBuffer() >= FULL_BUFFER) {
            flush();
        }
        return added;
    }

    public boolean delete(long key) {
        return drop(key);
    }

    public int refresh() {
        flush();
        return segmentCount;
    }

    public int open() {
        for (int i = 0; i < MOST_VIEWS; i++) {
            if (!views[i].inUse) {
                views[i].take(segments, segmentCount);
                return i;
            }
        }
        return FULL;
    }

    public int close(int view) {
        View closed = viewAt(view);
        if (closed == null) {
            return BAD;
        }
        closed.inUse = false;
        return 0;
    }

    public int search(int view) {
        int length = takeTape();
        View searched = viewAt(view);
        if (searched == null) {
            return BAD;
        }
        Parser parser = new Parser(tape, length, speller, spareQuery);
        int wrong = parser.wrongPlace();
        if (wrong >= 0) {
            return FIRST_PLACE - wrong;
        }
        Query query = spareQuery;
        spareQuery = answer.query;
        query.weigh(searched);
        answer.begin(view, query);
        for (int i = 0; i < searched.count; i++) {
            Document document = searched.liveAt(i);
            if (document != null) {
                answer.take(document, query.scoreOfAny(0, query.count, document, 0));
            }
        }
        answer.sort();
        return answer.count;
    }

    public long key(int i) {
        Document document = answer.documentAt(i);
        return document == null ? 0 : document.key;
    }

    public int hit(int i, int what) {
        if (what < 0 || what > 5) {
            return BAD;
        }
        Document document = answer.documentAt(i);
        if (document == null) {
            return NONE;
        }
        switch (what) {
            case 0:
                return answer.scoreAt(i);
            case 1:
                return document.x;
            case 2:
                return document.y;
            case 3:
                return document.title.tokens();
            case 4:
                return document.body.tokens();
            default:
                return document.number;
        }
    }

    public int bucket(int what, int from, int width) {
        if (what < 0 || what >= NUMBERS || width < 1) {
            return BAD;
        }
        long last = (long) from + width - 1;
        int within = 0;
        for (int i = 0; i < answer.count; i++) {
            Document document = answer.documentAt(i);
            if (document != null && document.isBetween(what, from, last)) {
                within++;
            }
        }
        return within;
    }

    public long over(int what, int of) {
        if (what < 0 || what >= NUMBERS || of < 0 || of > 2) {
            return BAD;
        }
        long sum = 0;
        long least = 0;
        long greatest = 0;
        for (int i = 0; i < answer.count; i++) {
            Document document = answer.documentAt(i);
            if (document != null) {
                long value = document.valueOf(what);
                sum += value;
                least = i == 0 ? value : Math.min(least, value);
                greatest = i == 0 ? value : Math.max(greatest, value);
            }
        }
        if (of == 0) {
            return sum;
        }
        return of == 1 ? least : greatest;
    }

    public int mark(int i, int field, boolean length) {
        if (field != TITLE && field != BODY) {
            return BAD;
        }
        Document document = answer.documentAt(i);
        if (document == null) {
            return NONE;
        }
        Text text = document.textOf(field);
        for (int token = 0; token < text.tokens(); token++) {
            if (answer.query.names(text.termAt(token), field)) {
                return length ? text.lengthAt(token) : text.startAt(token);
            }
        }
        return NONE;
    }

    public int near(int view) {
        int length = takeTape();
        View searched = viewAt(view);
        if (searched == null || !Speller.isWord(tape, length)) {
            return BAD;
        }
        return neighbour.lookIn(searched, tape, length);
    }

    public int nearByte(int i) {
        return neighbour.byteAt(i);
    }

    public int segment(int s, int what) {
        if (what < 0 || what > 4) {
            return BAD;
        }
        Segment told = segmentAt(s);
        if (told == null) {
            return NONE;
        }
        switch (what) {
            case 0:
                return told.level;
            case 1:
                return told.documents.length;
            case 2:
                return told.deletedDocuments();
            case 3:
                return told.titleTerms.size();
            default:
                return told.bodyTerms.size();
        }
    }

    public int view(int view, int what) {
        View told = viewAt(view);
        if (told == null) {
            return BAD;
        }
        switch (what) {
            case 0:
                return told.segmentCount;
            case 1:
                return told.count;
            case 2:
                return told.liveCount;
            default:
                return BAD;
        }
    }

    public int frequency(int view, int field) {
        int length = takeTape();
        View searched = viewAt(view);
        if (searched == null || field != TITLE && field != BODY || !Speller.isWord(tape, length)) {
            return BAD;
        }
        return searched.holders(field, speller.termOf(tape, 0, length));
    }

    public int told(int what) {
        switch (what) {
            case 0:
                return added;
            case 1:
                return liveInBuffer();
            case 2:
                return segmentCount;
            case 3:
                return openViews();
            case 4:
                return answer.count;
            case 5:
                return answer.view;
            case 6:
                return merges;
            default:
                return BAD;
        }
    }

    /** The length of the TAPE, whose bytes stay to be read till the next feed; the TAPE itself is empty then. */
    private int takeTape() {
        int length = tapeLength;
        tapeLength = 0;
        return length;
    }

    private int firstZero(int length) {
        for (int i = 0; i < length && i < TAPE_BYTES; i++) {
            if (tape[i] == 0) {
                return i;
            }
        }
        return length;
    }

    /** Deletes the document of a key that is not deleted; whether there was one. */
    private boolean drop(long key) {
        for (int i = 0; i < added; i++) {
            Document document = documentAt(i);
            if (isLive(document) && document.key == key) {
                document.deleted = true;
                return true;
            }
        }
        return false;
    }

    /** The document that was added when so many were; null: none such. */
    private Document documentAt(int i) {
        return i >= 0 && i < added && i < MOST_DOCUMENTS ? documents[i] : null;
    }

    private static boolean isLive(Document document) {
        return document != null && !document.deleted;
    }

    /** The segment at a place; null: none such. */
    private Segment segmentAt(int s) {
        return s >= 0 && s < segmentCount && s < MOST_SEGMENTS ? segments[s] : null;
    }

    // The buffer is what was added since the last flush, so it needs no row of its own.
    private int liveInBuffer() {
        int live = 0;
        for (int i = bufferStart; i < added; i++) {
            if (isLive(documentAt(i))) {
                live++;
            }
        }
        return live;
    }

    private void flush() {
        gatheredCount = 0;
        for (int i = bufferStart; i < added; i++) {
            gather(documentAt(i));
        }
        bufferStart = added;
        if (gatheredCount > 0 && segmentCount < MOST_SEGMENTS) {
            segments[segmentCount] = new Segment(0, gathered, gatheredCount);
            segmentCount++;
        }
        int level = leastFullLevel();
        for (int round = 0; round < MOST_DOCUMENTS && level >= 0; round++) {
            mergeFirst(level);
            level = leastFullLevel();
        }
    }

    private void gather(Document document) {
        if (isLive(document) && gatheredCount < MOST_DOCUMENTS) {
            gathered[gatheredCount] = document;
            gatheredCount++;
        }
    }

    /** The least level that has the number of segments that are merged; NONE: no level has. */
    private int leastFullLevel() {
        for (int level = 0; level < MOST_LEVELS; level++) {
            int found = 0;
            for (int i = 0; i < segmentCount; i++) {
                Segment segment = segmentAt(i);
                if (segment != null && segment.level == level) {
                    found++;
                }
            }
            if (found >= MERGED_SEGMENTS) {
                return level;
            }
        }
        return NONE;
    }

    /** Puts one segment in the place of the first of the first four of a level. */
    private void mergeFirst(int level) {
        gatheredCount = 0;
        int taken = 0;
        int place = 0;
        int kept = 0;
        for (int i = 0; i < segmentCount; i++) {
            Segment segment = segmentAt(i);
            if (segment != null && segment.level == level && taken < MERGED_SEGMENTS) {
                if (taken == 0) {
                    place = kept;
                    kept++;
                }
                taken++;
                gatherAll(segment);
            } else if (segment != null) {
                segments[kept] = segment;
                kept++;
            }
        }
        segmentCount = kept;
        merges++;
        if (gatheredCount == 0) {
            removeSegment(place);
        } else if (place < kept) {
            segments[place] = new Segment(level + 1, gathered, gatheredCount);
        }
    }

    private void gatherAll(Segment segment) {
        for (int i = 0; i < segment.documents.length; i++) {
            gather(segment.documents[i]);
        }
    }

    private void removeSegment(int place) {
        for (int i = place; i >= 0 && i + 1 < segmentCount && i + 1 < MOST_SEGMENTS; i++) {
            segments[i] = segments[i + 1];
        }
        segmentCount = Math.max(0, segmentCount - 1);
    }

    private View viewAt(int view) {
        if (view < 0 || view >= MOST_VIEWS || !views[view].inUse) {
            return null;
        }
        return views[view];
    }

    private int openViews() {
        int open = 0;
        for (int i = 0; i < MOST_VIEWS; i++) {
            if (views[i].inUse) {
                open++;
            }
        }
        return open;
    }

    private static int capped(long value) {
        return (int) Math.min(value, MOST_SCORE);
    }

    /** The score of what matches if one of two does. */
    private static int eitherScore(int one, int other) {
        if (one == NO_MATCH) {
            return other;
        }
        return other == NO_MATCH ? one : capped((long) one + other);
    }

    /** The score of what matches if both of two do. */
    private static int bothScore(int one, int other) {
        if (one == NO_MATCH || other == NO_MATCH) {
            return NO_MATCH;
        }
        return capped((long) one + other);
    }

    /**
     * Makes TERMS of words. A term is one long: twelve signs to the base 37, of which 0 stands behind the last,
     * so that the order of terms by bytes is that of the numbers. The number 0 stands for no term.
     */
    private static final class Speller {
        static final int TERM_BYTES = 12;
        static final int BASE = 37;
        private static final int FIRST_DIGIT = 1;
        private static final int FIRST_LETTER = 11;
        private static final int LETTER_S = FIRST_LETTER + 's' - 'a';
        private static final int LEAST_STEMMED = 4;
        private static final int STOP_COUNT = 11;
        private static final String STOP_WORDS = "a an and in is it of on or the to ";

        private final boolean stems;
        private final boolean stops;
        private final long[] stopTerms;

        Speller(boolean stems, boolean stops) {
            this.stems = stems;
            this.stops = stops;
            stopTerms = new long[STOP_COUNT];
            int found = 0;
            int length = 0;
            long signs = 0;
            for (int i = 0; i < STOP_WORDS.length(); i++) {
                int sign = signOf(STOP_WORDS.charAt(i));
                if (sign != 0) {
                    signs = signs * BASE + sign;
                    length++;
                } else if (found < STOP_COUNT) {
                    stopTerms[found] = padded(signs, length);
                    found++;
                    length = 0;
                    signs = 0;
                }
            }
        }

        /** The sign of a letter or digit, the same for a great and a small letter; 0: it is neither. */
        static int signOf(int letter) {
            if (letter >= '0' && letter <= '9') {
                return FIRST_DIGIT + letter - '0';
            }
            if (letter >= 'a' && letter <= 'z') {
                return FIRST_LETTER + letter - 'a';
            }
            return letter >= 'A' && letter <= 'Z' ? FIRST_LETTER + letter - 'A' : 0;
        }

        static int byteOf(int sign) {
            return sign >= FIRST_LETTER ? 'a' + sign - FIRST_LETTER : '0' + sign - FIRST_DIGIT;
        }

        /** The first place from a place on that has no letter or digit. */
        static int wordEnd(byte[] bytes, int from, int to) {
            int at = from;
            while (at >= 0 && at < to && at < bytes.length && signOf(bytes[at]) != 0) {
                at++;
            }
            return at;
        }

        /** The first place from a place on that has a letter or digit; to, if there is none. */
        static int wordStart(byte[] bytes, int from, int to) {
            int at = from;
            while (at >= 0 && at < to && at < bytes.length && signOf(bytes[at]) == 0) {
                at++;
            }
            return at;
        }

        static boolean isWord(byte[] bytes, int length) {
            return length > 0 && wordEnd(bytes, 0, length) == length;
        }

        /** The TERM of a word; 0: it has none. */
        long termOf(byte[] bytes, int from, int length) {
            int kept = Math.min(length, TERM_BYTES);
            int last = from + kept - 1;
            if (stems && kept >= LEAST_STEMMED && isS(bytes, last) && !isS(bytes, last - 1)) {
                kept--;
            }
            long term = padded(signsOf(bytes, from, kept), kept);
            return stops && isStop(term) ? 0 : term;
        }

        /** The least number that a term can have that begins as a word. */
        static long leastBeginning(byte[] bytes, int from, int length) {
            int kept = Math.min(length, TERM_BYTES);
            return padded(signsOf(bytes, from, kept), kept);
        }

        /** The greatest number that a term can have that begins as a word. */
        static long greatestBeginning(byte[] bytes, int from, int length) {
            int kept = Math.min(length, TERM_BYTES);
            return padded(signsOf(bytes, from, kept) + 1, kept) - 1;
        }

        private static boolean isS(byte[] bytes, int place) {
            return place >= 0 && place < bytes.length && signOf(bytes[place]) == LETTER_S;
        }

        private static long signsOf(byte[] bytes, int from, int length) {
            long signs = 0;
            for (int i = from; i >= 0 && i < from + length && i < bytes.length; i++) {
                signs = signs * BASE + signOf(bytes[i]);
            }
            return signs;
        }

        private static long padded(long signs, int length) {
            long term = signs;
            for (int i = length; i < TERM_BYTES; i++) {
                term *= BASE;
            }
            return term;
        }

        private boolean isStop(long term) {
            for (int i = 0; i < STOP_COUNT; i++) {
                if (stopTerms[i] == term) {
                    return true;
                }
            }
            return false;
        }
    }

    /** Different terms, the least first, and how often each stood in the row that they come from. */
    private static final class Vocabulary {
        // A row's length has 31 bits, so that many halvings leave none of it.
        private static final int MOST_HALVINGS = 31;

        private final long[] terms;
        private final int[] counts;

        /** Of the terms of a row, which is sorted by this; 0 is no term. */
        Vocabulary(long[] sorted) {
            sort(sorted);
            int different = 0;
            for (int i = 0; i < sorted.length; i++) {
                if (isFirst(sorted, i)) {
                    different++;
                }
            }
            terms = new long[different];
            counts = new int[different];
            int last = -1;
            for (int i = 0; i < sorted.length; i++) {
                if (isFirst(sorted, i) && last + 1 < different) {
                    last++;
                    terms[last] = sorted[i];
                }
                if (last >= 0) {
                    counts[last]++;
                }
            }
        }

        /** Whether a term stands at a place of a sorted row, and not before. */
        private static boolean isFirst(long[] sorted, int i) {
            return i >= 0 && i < sorted.length && sorted[i] != 0 && (i == 0 || sorted[i - 1] != sorted[i]);
        }

        private static void sort(long[] row) {
            for (int gap = row.length / 2; gap > 0; gap /= 2) {
                for (int i = gap; i < row.length; i++) {
                    long moved = row[i];
                    int at = i;
                    while (at >= gap && row[at - gap] > moved) {
                        row[at] = row[at - gap];
                        at -= gap;
                    }
                    row[at] = moved;
                }
            }
        }

        int size() {
            return terms.length;
        }

        /** The term at a place; 0: none such. */
        long termAt(int i) {
            return i >= 0 && i < terms.length ? terms[i] : 0;
        }

        int countOf(long term) {
            int place = placeOf(term);
            return termAt(place) == term && place < counts.length ? counts[place] : 0;
        }

        boolean hasBetween(long least, long greatest) {
            int place = placeOf(least);
            return place < terms.length && termAt(place) <= greatest;
        }

        /** The place of the first term that is a number or more. */
        private int placeOf(long least) {
            int from = 0;
            int to = terms.length;
            for (int halving = 0; halving < MOST_HALVINGS && from < to; halving++) {
                int middle = (from + to) >>> 1;
                if (terms[middle] < least) {
                    from = middle + 1;
                } else {
                    to = middle;
                }
            }
            return from;
        }
    }

    /** What is kept of a FIELD: its TOKENS, and how often each TERM is in it. */
    private static final class Text {
        private final int[] starts;
        private final int[] lengths;
        private final long[] terms;
        final Vocabulary vocabulary;

        Text(byte[] bytes, int from, int to, Speller speller) {
            int count = countTokens(bytes, from, to);
            starts = new int[count];
            lengths = new int[count];
            terms = new long[count];
            int at = from;
            for (int token = 0; token < count; token++) {
                int start = Speller.wordStart(bytes, at, to);
                at = Speller.wordEnd(bytes, start, to);
                starts[token] = start - from;
                lengths[token] = at - start;
                terms[token] = speller.termOf(bytes, start, at - start);
            }
            vocabulary = new Vocabulary(terms.clone());
        }

        private static int countTokens(byte[] bytes, int from, int to) {
            int count = 0;
            int at = Speller.wordStart(bytes, from, to);
            for (int i = from; i < to && at < to; i++) {
                count++;
                at = Speller.wordStart(bytes, Speller.wordEnd(bytes, at, to), to);
            }
            return count;
        }

        int tokens() {
            return terms.length;
        }

        int startAt(int token) {
            return token >= 0 && token < starts.length ? starts[token] : NONE;
        }

        int lengthAt(int token) {
            return token >= 0 && token < lengths.length ? lengths[token] : NONE;
        }

        /** The term of a token; 0: it has none, or there is no such token. */
        long termAt(int token) {
            return token >= 0 && token < terms.length ? terms[token] : 0;
        }

        /** The first position from .. to that has a term; NONE: there is none. */
        int positionOf(long term, int from, int to) {
            for (int position = from < 0 ? 0 : from; position <= to && position < terms.length; position++) {
                if (terms[position] == term) {
                    return position;
                }
            }
            return NONE;
        }
    }

    private static final class Document {
        final long key;
        final int x;
        final int y;
        final int number;
        final Text title;
        final Text body;
        boolean deleted;

        Document(long key, int x, int y, int number, Text title, Text body) {
            this.key = key;
            this.x = x;
            this.y = y;
            this.number = number;
            this.title = title;
            this.body = body;
        }

        Text textOf(int field) {
            return field == TITLE ? title : body;
        }

        int valueOf(int what) {
            return what == 0 ? x : y;
        }

        boolean isBetween(int what, long least, long greatest) {
            return valueOf(what) >= least && valueOf(what) <= greatest;
        }
    }

    /** Documents that were put together; all but which of them are deleted stays as it is. */
    private static final class Segment {
        final int level;
        final Document[] documents;
        final Vocabulary titleTerms;
        final Vocabulary bodyTerms;

        Segment(int level, Document[] row, int count) {
            this.level = level;
            documents = new Document[Math.max(0, Math.min(count, row.length))];
            for (int i = 0; i < documents.length; i++) {
                documents[i] = row[i];
            }
            titleTerms = new Vocabulary(termsOf(documents, TITLE));
            bodyTerms = new Vocabulary(termsOf(documents, BODY));
        }

        /** The terms of a field, each as often as documents have it there. */
        private static long[] termsOf(Document[] documents, int field) {
            int count = 0;
            for (int i = 0; i < documents.length; i++) {
                if (documents[i] != null) {
                    count += documents[i].textOf(field).vocabulary.size();
                }
            }
            long[] terms = new long[count];
            int put = 0;
            for (int i = 0; i < documents.length; i++) {
                if (documents[i] != null) {
                    Vocabulary vocabulary = documents[i].textOf(field).vocabulary;
                    for (int t = 0; t < vocabulary.size() && put < count; t++) {
                        terms[put] = vocabulary.termAt(t);
                        put++;
                    }
                }
            }
            return terms;
        }

        Vocabulary termsOf(int field) {
            return field == TITLE ? titleTerms : bodyTerms;
        }

        int deletedDocuments() {
            int deleted = 0;
            for (int i = 0; i < documents.length; i++) {
                if (documents[i] != null && documents[i].deleted) {
                    deleted++;
                }
            }
            return deleted;
        }
    }

    /** The segments of a moment, with what was deleted at it. */
    private static final class View {
        boolean inUse;
        private final Segment[] segments;
        int segmentCount;
        private final Document[] documents;
        private final boolean[] dead;
        int count;
        int liveCount;

        View() {
            segments = new Segment[MOST_SEGMENTS];
            documents = new Document[MOST_DOCUMENTS];
            dead = new boolean[MOST_DOCUMENTS];
        }

        void take(Segment[] row, int rowCount) {
            inUse = true;
            segmentCount = 0;
            count = 0;
            liveCount = 0;
            for (int i = 0; i < rowCount && i < row.length && i < MOST_SEGMENTS; i++) {
                Segment segment = row[i];
                if (segment != null) {
                    segments[segmentCount] = segment;
                    segmentCount++;
                    takeDocuments(segment.documents);
                }
            }
        }

        private void takeDocuments(Document[] row) {
            for (int i = 0; i < row.length && count < MOST_DOCUMENTS; i++) {
                Document document = row[i];
                if (document != null) {
                    documents[count] = document;
                    dead[count] = document.deleted;
                    count++;
                    if (!document.deleted) {
                        liveCount++;
                    }
                }
            }
        }

        /** The document at a place; null: none such, or it is dead. */
        Document liveAt(int i) {
            return i >= 0 && i < count && !dead[i] ? documents[i] : null;
        }

        /** The terms that a segment has in a field; null: no such segment. */
        Vocabulary termsOf(int s, int field) {
            if (s < 0 || s >= segmentCount || segments[s] == null) {
                return null;
            }
            return segments[s].termsOf(field);
        }

        /** How many documents have a term in a field, also the dead. */
        int holders(int field, long term) {
            int holders = 0;
            for (int i = 0; i < segmentCount; i++) {
                Vocabulary vocabulary = termsOf(i, field);
                if (vocabulary != null) {
                    holders += vocabulary.countOf(term);
                }
            }
            return holders;
        }

        /** RARE of a term; 0 if no document has it, so that it counts nowhere. */
        int rareness(int field, long term) {
            int holders = holders(field, term);
            if (holders < 1) {
                return 0;
            }
            int halvings = 0;
            while (halvings < 30 && count >> (halvings + 1) >= holders) {
                halvings++;
            }
            return 1 + halvings;
        }
    }

    /** One PART of a query. The parts within it stand behind it, before its end. */
    private static final class Part {
        static final int GROUP = 0;
        static final int WORDS = 1;
        static final int BEGINNING = 2;
        static final int RANGE = 3;
        private static final int TITLE_WEIGHT = 3;
        private static final int BODY_WEIGHT = 1;

        int kind;
        int field;
        boolean negated;
        boolean barred;
        boolean startsAll;
        int boost;
        int end;
        private final long[] terms;
        private final int[] numbers;
        private int termCount;
        int slack;
        int what;
        long least;
        long greatest;
        private final int[] rareness;

        Part() {
            terms = new long[PHRASE_WORDS];
            numbers = new int[PHRASE_WORDS];
            rareness = new int[FIELDS];
        }

        void clear() {
            kind = GROUP;
            field = EITHER_FIELD;
            negated = false;
            barred = false;
            startsAll = false;
            boost = 1;
            end = 0;
            termCount = 0;
            slack = 0;
        }

        /** Takes the term of the word that has a number in its phrase; words without a term only leave their number. */
        void takeTerm(long term, int number) {
            if (term != 0 && termCount < PHRASE_WORDS) {
                terms[termCount] = term;
                numbers[termCount] = number;
                termCount++;
            }
        }

        void weigh(View view) {
            for (int f = 0; kind == WORDS && f < FIELDS; f++) {
                rareness[f] = 0;
                for (int i = 0; isFor(f) && i < termCount; i++) {
                    rareness[f] += view.rareness(f, terms[i]);
                }
            }
        }

        /** The score of what is no group, without - and ^. */
        int scoreOf(Document document) {
            if (kind == RANGE) {
                return document.isBetween(what, least, greatest) ? 0 : NO_MATCH;
            }
            if (kind == WORDS && termCount == 0) {
                return 0;
            }
            int score = NO_MATCH;
            for (int f = 0; f < FIELDS; f++) {
                if (isFor(f)) {
                    score = eitherScore(score, scoreIn(document.textOf(f), f));
                }
            }
            return score;
        }

        private boolean isFor(int f) {
            return field == EITHER_FIELD || field == f;
        }

        private int scoreIn(Text text, int f) {
            int weight = f == TITLE ? TITLE_WEIGHT : BODY_WEIGHT;
            if (kind == BEGINNING) {
                return text.vocabulary.hasBetween(least, greatest) ? 16 * weight : NO_MATCH;
            }
            int found = termCount == 1 ? text.vocabulary.countOf(terms[0]) : occurrences(text);
            if (found == 0) {
                return NO_MATCH;
            }
            return capped(64L * found * rareness[f] * weight) / (8 + text.tokens());
        }

        private int occurrences(Text text) {
            int found = 0;
            for (int position = 0; position < text.tokens(); position++) {
                if (text.termAt(position) == terms[0] && occursAt(text, position)) {
                    found++;
                }
            }
            return found;
        }

        // The earliest position for each term leaves the most room for the next, so no other needs a look.
        private boolean occursAt(Text text, int first) {
            if (termCount < 1 || termCount > PHRASE_WORDS) {
                return false;
            }
            int last = first + numbers[termCount - 1] - numbers[0] + slack;
            int at = first;
            for (int i = 1; i < termCount && at >= 0; i++) {
                at = text.positionOf(terms[i], at + numbers[i] - numbers[i - 1], last);
            }
            return at >= 0;
        }

        /** Whether this part asks for a term in a field. */
        boolean names(long term, int f) {
            if (barred || !isFor(f)) {
                return false;
            }
            if (kind == BEGINNING) {
                return term >= least && term <= greatest;
            }
            if (kind == WORDS) {
                for (int i = 0; i < termCount; i++) {
                    if (terms[i] == term) {
                        return true;
                    }
                }
            }
            return false;
        }
    }

    /** The parts of a query in the order of their first pieces. */
    private static final class Query {
        private final Part[] parts;
        int count;

        Query() {
            parts = new Part[MOST_PARTS];
            for (int i = 0; i < MOST_PARTS; i++) {
                parts[i] = new Part();
            }
        }

        /** A new part, behind all others; null: there would be too many. */
        Part nextPart() {
            if (count >= MOST_PARTS) {
                return null;
            }
            Part part = parts[count];
            part.clear();
            count++;
            return part;
        }

        void weigh(View view) {
            for (int i = 0; i < count; i++) {
                parts[i].weigh(view);
            }
        }

        /** The score of the ANY whose parts stand from .. to - 1. */
        private int scoreOfAny(int from, int to, Document document, int depth) {
            if (depth > MOST_NESTED) {
                return NO_MATCH;
            }
            int score = NO_MATCH;
            int allScore = NO_MATCH;
            int i = Math.max(from, 0);
            while (i < to && i < count) {
                Part part = parts[i];
                int partScore = scoreOfPart(i, document, depth);
                if (part.startsAll) {
                    score = eitherScore(score, allScore);
                    allScore = partScore;
                } else {
                    allScore = bothScore(allScore, partScore);
                }
                i = Math.max(i + 1, part.end);
            }
            return eitherScore(score, allScore);
        }

        private int scoreOfPart(int i, Document document, int depth) {
            if (i < 0 || i >= count) {
                return NO_MATCH;
            }
            Part part = parts[i];
            int score = part.kind == Part.GROUP
                    ? scoreOfAny(i + 1, part.end, document, depth + 1) : part.scoreOf(document);
            if (part.negated) {
                score = score == NO_MATCH ? 0 : NO_MATCH;
            }
            return score == NO_MATCH ? NO_MATCH : capped((long) score * part.boost);
        }

        /** Whether a part that no - stands before asks for a term in a field. */
        boolean names(long term, int field) {
            for (int i = 0; term != 0 && i < count; i++) {
                if (parts[i].names(term, field)) {
                    return true;
                }
            }
            return false;
        }
    }

    /** Reads a query piece by piece and stops at the first piece that can't stand where it stands. */
    private static final class Parser {
        // A piece that is one byte has that byte as its kind, also a byte that is no piece: nothing asks for it.
        private static final int WORD = 256;
        private static final int NO_MORE = 257;
        private static final String TITLE_NAME = "title";
        private static final String BODY_NAME = "body";

        private final byte[] tape;
        private final int length;
        private final Speller speller;
        private final Query query;
        private int kind;
        private int start;
        private int end;

        Parser(byte[] tape, int length, Speller speller, Query query) {
            this.tape = tape;
            this.length = Math.min(length, tape.length);
            this.speller = speller;
            this.query = query;
        }

        /** The place of the first piece that can't stand; NONE: the query is right. */
        int wrongPlace() {
            query.count = 0;
            advance();
            return readAny(0, false) && kind == NO_MORE ? NONE : start;
        }

        private void advance() {
            start = end;
            while (start < length && tape[start] == ' ') {
                start++;
            }
            if (start >= length) {
                kind = NO_MORE;
                end = start;
                return;
            }
            end = Speller.wordEnd(tape, start, length);
            kind = WORD;
            if (end == start) {
                kind = tape[start] & 255;
                end = start + 1;
            }
        }

        private boolean readAny(int depth, boolean barred) {
            boolean startsAll = true;
            for (int i = 0; i <= MOST_PARTS; i++) {
                if (!readPart(depth, barred, startsAll)) {
                    return false;
                }
                startsAll = kind == '|';
                if (startsAll) {
                    advance();
                } else if (!beginsPart()) {
                    return true;
                }
            }
            return false;
        }

        private boolean beginsPart() {
            return kind == WORD || kind == '"' || kind == '(' || kind == '[' || kind == '-';
        }

        private boolean readPart(int depth, boolean barred, boolean startsAll) {
            Part part = query.nextPart();
            if (part == null) {
                return false;
            }
            part.startsAll = startsAll;
            part.negated = kind == '-';
            part.barred = barred || part.negated;
            if (part.negated) {
                advance();
            }
            if (!readAtom(part, depth)) {
                return false;
            }
            if (kind == '^') {
                advance();
                part.boost = number(1);
                if (part.boost < 1) {
                    return false;
                }
                advance();
            }
            part.end = query.count;
            return true;
        }

        private boolean readAtom(Part part, int depth) {
            switch (kind) {
                case '(':
                    return readGroup(part, depth);
                case '[':
                    return readRange(part);
                case '"':
                    return readPhrase(part);
                case WORD:
                    return readWord(part);
                default:
                    return false;
            }
        }

        private boolean readGroup(Part part, int depth) {
            if (depth >= MOST_NESTED) {
                return false;
            }
            part.kind = Part.GROUP;
            advance();
            if (!readAny(depth + 1, part.barred) || kind != ')') {
                return false;
            }
            advance();
            return true;
        }

        private boolean readRange(Part part) {
            part.kind = Part.RANGE;
            advance();
            boolean isX = wordIs(start, end, "x");
            if (!isX && !wordIs(start, end, "y")) {
                return false;
            }
            part.what = isX ? 0 : 1;
            advance();
            for (int i = 0; i < 2; i++) {
                int sign = kind == '-' ? -1 : 1;
                if (sign < 0) {
                    advance();
                }
                int value = number(RANGE_DIGITS);
                if (value < 0) {
                    return false;
                }
                if (i == 0) {
                    part.least = sign * value;
                }
                part.greatest = sign * value;
                advance();
            }
            if (kind != ']') {
                return false;
            }
            advance();
            return true;
        }

        private boolean readPhrase(Part part) {
            part.kind = Part.WORDS;
            advance();
            int words = 0;
            while (kind == WORD && words < PHRASE_WORDS) {
                part.takeTerm(speller.termOf(tape, start, end - start), words);
                words++;
                advance();
            }
            if (words == 0 || kind != '"') {
                return false;
            }
            advance();
            if (kind != '~') {
                return true;
            }
            advance();
            part.slack = number(1);
            if (part.slack < 0) {
                return false;
            }
            advance();
            return true;
        }

        private boolean readWord(Part part) {
            int from = start;
            int to = end;
            advance();
            int field = fieldNamed(from, to);
            if (kind == ':' && field >= 0) {
                part.field = field;
                advance();
                if (kind == '"') {
                    return readPhrase(part);
                }
                if (kind != WORD) {
                    return false;
                }
                from = start;
                to = end;
                advance();
            }
            if (kind == '*') {
                part.kind = Part.BEGINNING;
                part.least = Speller.leastBeginning(tape, from, to - from);
                part.greatest = Speller.greatestBeginning(tape, from, to - from);
                advance();
            } else {
                part.kind = Part.WORDS;
                part.takeTerm(speller.termOf(tape, from, to - from), 0);
            }
            return true;
        }

        private int fieldNamed(int from, int to) {
            if (wordIs(from, to, TITLE_NAME)) {
                return TITLE;
            }
            return wordIs(from, to, BODY_NAME) ? BODY : NONE;
        }

        private boolean wordIs(int from, int to, String name) {
            if (from < 0 || to > length || to - from != name.length()) {
                return false;
            }
            for (int i = 0; i < name.length(); i++) {
                if (tape[from + i] != name.charAt(i)) {
                    return false;
                }
            }
            return true;
        }

        /** The number that the piece is, if it is a WORD of digits, not more than told; NONE: it is none. */
        private int number(int mostDigits) {
            if (kind != WORD || end - start > mostDigits) {
                return NONE;
            }
            int value = 0;
            for (int i = start; i < end && i < length; i++) {
                if (tape[i] < '0' || tape[i] > '9') {
                    return NONE;
                }
                value = value * 10 + tape[i] - '0';
            }
            return value;
        }
    }

    /** The hits of the latest search that was not wrong, and what it asked for. */
    private static final class Answer {
        Query query;
        int view;
        private final Document[] documents;
        private final int[] scores;
        int count;

        Answer() {
            query = new Query();
            view = NONE;
            documents = new Document[MOST_DOCUMENTS];
            scores = new int[MOST_DOCUMENTS];
        }

        void begin(int askedView, Query asked) {
            view = askedView;
            query = asked;
            count = 0;
        }

        void take(Document document, int score) {
            if (score != NO_MATCH && count < MOST_DOCUMENTS) {
                documents[count] = document;
                scores[count] = score;
                count++;
            }
        }

        void sort() {
            for (int gap = count / 2; gap > 0; gap /= 2) {
                for (int i = gap; i < count; i++) {
                    Document document = documents[i];
                    int score = scores[i];
                    int at = i;
                    while (at >= gap && isBefore(document, score, at - gap)) {
                        documents[at] = documents[at - gap];
                        scores[at] = scores[at - gap];
                        at -= gap;
                    }
                    documents[at] = document;
                    scores[at] = score;
                }
            }
        }

        /** Whether a document with its score comes before the hit at a place. */
        private boolean isBefore(Document document, int score, int i) {
            if (score != scores[i]) {
                return score > scores[i];
            }
            Document other = documents[i];
            if (document == null || other == null) {
                return false;
            }
            if (document.key != other.key) {
                return document.key < other.key;
            }
            return document.number < other.number;
        }

        /** The document of a hit; null: none such. */
        Document documentAt(int i) {
            return i >= 0 && i < count ? documents[i] : null;
        }

        int scoreAt(int i) {
            return i >= 0 && i < count ? scores[i] : NONE;
        }
    }

    /** THE NEAR one, and the rows that finding it needs. */
    private static final class Neighbour {
        private long found;
        private int bestEdits;
        private int bestHolders;
        private long best;
        private final int[] wanted;
        private int wantedLength;
        private final int[] signs;
        private final int[] row;

        Neighbour() {
            wanted = new int[Speller.TERM_BYTES];
            signs = new int[Speller.TERM_BYTES];
            row = new int[Speller.TERM_BYTES + 1];
        }

        /** The edits of the term that is nearest to a word; NONE: none is near. */
        int lookIn(View view, byte[] bytes, int length) {
            wantedLength = spell(Speller.leastBeginning(bytes, 0, length), wanted);
            bestEdits = MOST_EDITS + 1;
            for (int s = 0; s < view.segmentCount; s++) {
                Vocabulary vocabulary = view.termsOf(s, BODY);
                for (int i = 0; vocabulary != null && i < vocabulary.size(); i++) {
                    compare(vocabulary.termAt(i), view);
                }
            }
            if (bestEdits > MOST_EDITS) {
                return NONE;
            }
            found = best;
            return bestEdits;
        }

        private void compare(long term, View view) {
            int edits = editsTo(term);
            if (edits > MOST_EDITS || edits > bestEdits) {
                return;
            }
            int holders = view.holders(BODY, term);
            boolean better = edits < bestEdits || holders > bestHolders || holders == bestHolders && term < best;
            if (better) {
                bestEdits = edits;
                bestHolders = holders;
                best = term;
            }
        }

        private int editsTo(long term) {
            int length = spell(term, signs);
            if (Math.abs(length - wantedLength) > MOST_EDITS) {
                return MOST_EDITS + 1;
            }
            for (int column = 0; column <= length; column++) {
                row[column] = column;
            }
            for (int line = 1; line <= wantedLength; line++) {
                int diagonal = row[0];
                row[0] = line;
                for (int column = 1; column <= length; column++) {
                    int changed = diagonal + (wanted[line - 1] == signs[column - 1] ? 0 : 1);
                    diagonal = row[column];
                    row[column] = Math.min(changed, 1 + Math.min(row[column], row[column - 1]));
                }
            }
            return row[length];
        }

        /** Puts a term's signs into a row; how many there are. */
        private static int spell(long term, int[] signs) {
            long rest = term;
            int length = 0;
            for (int i = Math.min(signs.length, Speller.TERM_BYTES) - 1; i >= 0; i--) {
                signs[i] = (int) (rest % Speller.BASE);
                rest /= Speller.BASE;
                if (signs[i] != 0) {
                    length++;
                }
            }
            return length;
        }

        int byteAt(int i) {
            int length = spell(found, signs);
            if (length == 0 || i < -1 || i >= length) {
                return NONE;
            }
            return i == -1 ? length : Speller.byteOf(signs[i]);
        }
    }
}
