public final class CsvDialect {
    public static final int BAD_ARG = -1;
    public static final int FULL = -2;
    public static final int NONE = -4;
    public static final int UNREADABLE = -5;

    private static final int COMMA = 5;
    private static final int SEMICOLON = 6;
    private static final int QUOTE = 7;
    private static final int RETURN = 8;
    private static final int LINE_FEED = 9;
    private static final int ESCAPE = 10;

    private static final int MAX_RECORDS = 6;
    private static final int MAX_FIELDS = 5;
    private static final int MAX_SIZE = 6;
    private static final int MAX_RAW = 96;
    private static final int ALL_FIELDS = MAX_RECORDS * MAX_FIELDS;
    private static final int ALL_CHARACTERS = ALL_FIELDS * MAX_SIZE;
    // Each field all quotes: every one doubled, two around the field, and a separator or the end behind it.
    private static final int MAX_WRITING = ALL_FIELDS * (2 * MAX_SIZE + 3) + MAX_RECORDS;

    private static final int DIALECTS = 8;
    private static final int WITH_SEMICOLON = 1;
    private static final int WITH_LINE_FEED_ONLY = 2;
    private static final int WITH_ESCAPE = 4;

    // Where a reader stands between two characters of the raw text.
    private static final int RECORD_START = 0;
    private static final int FIELD_START = 1;
    private static final int IN_PLAIN = 2;
    private static final int IN_QUOTES = 3;
    private static final int AFTER_ESCAPE = 4;
    // The quote may have closed the field or, in a dialect with two quotes, be the first of two.
    private static final int AFTER_QUOTE = 5;
    private static final int AFTER_RETURN = 6;
    private static final int DEAD = 7;

    private final int[] draftCharacters = new int[MAX_SIZE];
    private int draftSize;

    // Field f of record r has the place r * MAX_FIELDS + f, and its characters start at place * MAX_SIZE.
    private final int[] fieldCounts = new int[MAX_RECORDS];
    private final int[] fieldSizes = new int[ALL_FIELDS];
    private final int[] characters = new int[ALL_CHARACTERS];
    private int recordCount;

    private final int[] rawCharacters = new int[MAX_RAW];
    private int rawCount;

    private final int[] writing = new int[MAX_WRITING];
    private int writingCount;

    // What the last scan of the raw text found.
    private int scanState;
    private int scanSound;
    private int scanRecords;
    private int scanFields;
    private int scanSize;
    private int scanMostFields;
    private int scanLongest;
    private boolean scanUneven;

    public CsvDialect() {
        draftSize = 0;
        recordCount = 0;
        rawCount = 0;
    }

    public int draft(int c) {
        if (c < 0 || c >= ESCAPE) {
            return BAD_ARG;
        }
        if (draftSize >= MAX_SIZE) {
            return FULL;
        }
        draftCharacters[draftSize] = c;
        draftSize++;
        return draftSize;
    }

    public void scrap() {
        draftSize = 0;
    }

    public int addRow() {
        if (recordCount >= MAX_RECORDS) {
            return FULL;
        }
        openRecord();
        placeDraft(recordCount - 1, 0);
        return recordCount;
    }

    public int field() {
        if (recordCount == 0) {
            return NONE;
        }
        int last = recordCount - 1;
        if (fieldCounts[last] >= MAX_FIELDS) {
            return FULL;
        }
        openField();
        placeDraft(last, fieldCounts[last] - 1);
        return fieldCounts[last];
    }

    public int put(int r, int f) {
        if (!hasField(r, f)) {
            return NONE;
        }
        placeDraft(r, f);
        return fieldSizes[r * MAX_FIELDS + f];
    }

    public void clear() {
        recordCount = 0;
    }

    public int records() {
        return recordCount;
    }

    public int fields(int r) {
        return hasRecord(r) ? fieldCounts[r] : NONE;
    }

    public int size(int r, int f) {
        return hasField(r, f) ? fieldSizes[r * MAX_FIELDS + f] : NONE;
    }

    public int at(int r, int f, int i) {
        if (!hasField(r, f)) {
            return NONE;
        }
        int place = r * MAX_FIELDS + f;
        if (i < 0 || i >= fieldSizes[place]) {
            return NONE;
        }
        return characters[place * MAX_SIZE + i];
    }

    public int raw(int c) {
        if (c < 0 || c > ESCAPE) {
            return BAD_ARG;
        }
        if (rawCount >= MAX_RAW) {
            return FULL;
        }
        rawCharacters[rawCount] = c;
        rawCount++;
        return rawCount;
    }

    public int unraw() {
        if (rawCount == 0) {
            return NONE;
        }
        rawCount--;
        return rawCharacters[rawCount];
    }

    public int rawLength() {
        return rawCount;
    }

    public int rawAt(int i) {
        return i >= 0 && i < rawCount ? rawCharacters[i] : NONE;
    }

    public void rawClear() {
        rawCount = 0;
    }

    public int written(int d) {
        if (!isDialect(d)) {
            return BAD_ARG;
        }
        compose(d);
        return writingCount;
    }

    public int write(int d) {
        if (!isDialect(d)) {
            return BAD_ARG;
        }
        compose(d);
        if (writingCount > MAX_RAW) {
            return FULL;
        }
        for (int i = 0; i < writingCount; i++) {
            rawCharacters[i] = writing[i];
        }
        rawCount = writingCount;
        return rawCount;
    }

    public int read(int d) {
        if (!isDialect(d)) {
            return BAD_ARG;
        }
        scan(d);
        if (!scanReads()) {
            return UNREADABLE;
        }
        if (scanRecords > MAX_RECORDS || scanMostFields > MAX_FIELDS || scanLongest > MAX_SIZE) {
            return FULL;
        }
        fillTable(d);
        return recordCount;
    }

    public int sound(int d) {
        if (!isDialect(d)) {
            return BAD_ARG;
        }
        scan(d);
        return scanSound;
    }

    public int even() {
        int set = 0;
        for (int d = 0; d < DIALECTS; d++) {
            scan(d);
            if (scanReads() && !scanUneven) {
                set += 1 << d;
            }
        }
        return set;
    }

    public int guess() {
        int best = NONE;
        // An empty raw text never gets above 0 fields, so it stays with NONE.
        int most = 0;
        for (int d = 0; d < DIALECTS; d++) {
            scan(d);
            if (scanReads() && !scanUneven && scanMostFields > most) {
                best = d;
                most = scanMostFields;
            }
        }
        return best;
    }

    private static boolean isDialect(int d) {
        return d >= 0 && d < DIALECTS;
    }

    private static int separatorOf(int d) {
        return (d & WITH_SEMICOLON) != 0 ? SEMICOLON : COMMA;
    }

    private static boolean endsWithReturn(int d) {
        return (d & WITH_LINE_FEED_ONLY) == 0;
    }

    private static boolean hasEscape(int d) {
        return (d & WITH_ESCAPE) != 0;
    }

    private boolean hasRecord(int r) {
        return r >= 0 && r < recordCount;
    }

    private boolean hasField(int r, int f) {
        return hasRecord(r) && f >= 0 && f < fieldCounts[r];
    }

    private void openRecord() {
        if (recordCount < MAX_RECORDS) {
            fieldCounts[recordCount] = 1;
            fieldSizes[recordCount * MAX_FIELDS] = 0;
            recordCount++;
        }
    }

    private void openField() {
        int last = recordCount - 1;
        if (last >= 0 && fieldCounts[last] < MAX_FIELDS) {
            fieldSizes[last * MAX_FIELDS + fieldCounts[last]] = 0;
            fieldCounts[last]++;
        }
    }

    private void appendToLastField(int c) {
        int last = recordCount - 1;
        if (last < 0 || fieldCounts[last] < 1) {
            return;
        }
        int place = last * MAX_FIELDS + fieldCounts[last] - 1;
        if (fieldSizes[place] < MAX_SIZE) {
            characters[place * MAX_SIZE + fieldSizes[place]] = c;
            fieldSizes[place]++;
        }
    }

    private void placeDraft(int r, int f) {
        int place = r * MAX_FIELDS + f;
        for (int i = 0; i < draftSize; i++) {
            characters[place * MAX_SIZE + i] = draftCharacters[i];
        }
        fieldSizes[place] = draftSize;
        draftSize = 0;
    }

    private void compose(int d) {
        writingCount = 0;
        for (int r = 0; r < recordCount; r++) {
            composeRecord(d, r);
        }
    }

    private void composeRecord(int d, int r) {
        int separator = separatorOf(d);
        int count = fieldCounts[r];
        for (int f = 0; f < count; f++) {
            if (f > 0) {
                emit(separator);
            }
            composeField(d, r, f);
        }
        if (endsWithReturn(d)) {
            emit(RETURN);
        }
        emit(LINE_FEED);
    }

    private void composeField(int d, int r, int f) {
        int place = r * MAX_FIELDS + f;
        int count = fieldSizes[place];
        int beforeQuote = hasEscape(d) ? ESCAPE : QUOTE;
        int separator = separatorOf(d);
        boolean quoted = needsQuotes(separator, r, f);
        if (quoted) {
            emit(QUOTE);
        }
        for (int i = 0; i < count; i++) {
            int c = characters[place * MAX_SIZE + i];
            if (c == QUOTE) {
                emit(beforeQuote);
            }
            emit(c);
        }
        if (quoted) {
            emit(QUOTE);
        }
    }

    private boolean needsQuotes(int separator, int r, int f) {
        int place = r * MAX_FIELDS + f;
        for (int i = 0; i < fieldSizes[place]; i++) {
            int c = characters[place * MAX_SIZE + i];
            if (c == separator || c == QUOTE || c == RETURN || c == LINE_FEED) {
                return true;
            }
        }
        return fieldSizes[place] == 0 && fieldCounts[r] == 1;
    }

    private void emit(int c) {
        if (writingCount < MAX_WRITING) {
            writing[writingCount] = c;
            writingCount++;
        }
    }

    private void scan(int d) {
        scanState = RECORD_START;
        scanSound = 0;
        scanRecords = 0;
        scanFields = 0;
        scanSize = 0;
        scanMostFields = 0;
        scanLongest = 0;
        scanUneven = false;
        for (int i = 0; i < rawCount && scanState != DEAD; i++) {
            int next = step(d, scanState, rawCharacters[i]);
            countStep(scanState, next);
            scanState = next;
        }
        if (scanState != RECORD_START) {
            countRecord();
        }
    }

    private void countStep(int state, int next) {
        // From every state but DEAD some text leads on to one that reads.
        if (next != DEAD) {
            scanSound++;
        }
        if (state == RECORD_START) {
            scanRecords++;
            scanFields = 1;
            scanSize = 0;
        }
        if (next == FIELD_START) {
            scanFields++;
            scanSize = 0;
        }
        if (isContent(state, next)) {
            scanSize++;
            scanLongest = scanSize > scanLongest ? scanSize : scanLongest;
        }
        if (next == RECORD_START) {
            countRecord();
        }
    }

    private void countRecord() {
        if (scanRecords > 1 && scanFields != scanMostFields) {
            scanUneven = true;
        }
        if (scanFields > scanMostFields) {
            scanMostFields = scanFields;
        }
    }

    private boolean scanReads() {
        return scanState == RECORD_START || scanState == FIELD_START
            || scanState == IN_PLAIN || scanState == AFTER_QUOTE;
    }

    // Only for a raw text that the scan found to read and to keep to the limits.
    private void fillTable(int d) {
        recordCount = 0;
        int state = RECORD_START;
        for (int i = 0; i < rawCount; i++) {
            int c = rawCharacters[i];
            int next = step(d, state, c);
            // A record is there as soon as it has a character, be it only one of its end.
            if (state == RECORD_START) {
                openRecord();
            }
            if (next == FIELD_START) {
                openField();
            }
            if (isContent(state, next)) {
                appendToLastField(c);
            }
            state = next;
        }
    }

    private static boolean isContent(int state, int next) {
        boolean opensQuotes = state == RECORD_START || state == FIELD_START;
        return next == IN_PLAIN || next == IN_QUOTES && !opensQuotes;
    }

    private static int step(int d, int state, int c) {
        switch (state) {
            case IN_QUOTES:
                return stepInQuotes(d, c);
            case AFTER_ESCAPE:
                return c == QUOTE ? IN_QUOTES : DEAD;
            case AFTER_RETURN:
                return c == LINE_FEED ? RECORD_START : DEAD;
            case DEAD:
                return DEAD;
            default:
                return c == QUOTE ? stepAtQuote(d, state) : stepOutside(d, state, c);
        }
    }

    private static int stepInQuotes(int d, int c) {
        if (c == QUOTE) {
            return AFTER_QUOTE;
        }
        if (c == ESCAPE) {
            return hasEscape(d) ? AFTER_ESCAPE : DEAD;
        }
        return IN_QUOTES;
    }

    private static int stepAtQuote(int d, int state) {
        if (state == IN_PLAIN) {
            return DEAD;
        }
        return state == AFTER_QUOTE && hasEscape(d) ? DEAD : IN_QUOTES;
    }

    private static int stepOutside(int d, int state, int c) {
        if (c == separatorOf(d)) {
            return FIELD_START;
        }
        if (c == RETURN) {
            return endsWithReturn(d) ? AFTER_RETURN : DEAD;
        }
        if (c == LINE_FEED) {
            return endsWithReturn(d) ? DEAD : RECORD_START;
        }
        return c == ESCAPE || state == AFTER_QUOTE ? DEAD : IN_PLAIN;
    }
}
