/** Promises 12 to 16: the boundary cases of each, with the whole state before and after each call. */
public final class RawBoundaryTest {
    private static final State NONE_RAW = new State("[cd|e][]", "", "bc");
    private static final String MOST = "ab\\,;\"\r\ncde".repeat(9).substring(0, 96);
    private static final State FULL_RAW = NONE_RAW.raw(MOST);

    public static void main(String[] args) {
        raw();
        unraw();
        rawLength();
        rawAt();
        rawClear();
        Kit.finish();
    }

    // Promise 12: "Tested in this order: c not 0 to 10 answers BAD_ARG; 96 characters answers FULL."
    private static void raw() {
        for (int n : new int[] {0, 1, 47, 94, 95}) {
            String text = MOST.substring(0, n);
            NONE_RAW.raw(text).becomes("raw(10)", x -> x.raw(10), n + 1, NONE_RAW.raw(text + "\\"));
            NONE_RAW.raw(text).becomes("raw(0)", x -> x.raw(0), n + 1, NONE_RAW.raw(text + "a"));
            NONE_RAW.raw(text).refuses("raw(11)", x -> x.raw(11), CsvDialect.BAD_ARG);
            NONE_RAW.raw(text).refuses("raw(-1)", x -> x.raw(-1), CsvDialect.BAD_ARG);
        }
        for (int c = 0; c <= 10; c++) {
            int character = c;
            FULL_RAW.refuses("raw(" + c + ")", x -> x.raw(character), CsvDialect.FULL);
        }
        for (int bad : Kit.outside(0, 10)) {
            FULL_RAW.refuses("raw(" + bad + ")", x -> x.raw(bad), CsvDialect.BAD_ARG);
        }
    }

    // Promise 13: "Takes the last character off the raw text and answers it; NONE if it is empty."
    private static void unraw() {
        NONE_RAW.refuses("unraw()", x -> x.unraw(), CsvDialect.NONE);
        for (int c = 0; c <= 10; c++) {
            String one = Kit.ALPHABET.substring(c, c + 1);
            NONE_RAW.raw(one).becomes("unraw()", x -> x.unraw(), c, NONE_RAW);
            NONE_RAW.raw("b" + one).becomes("unraw()", x -> x.unraw(), c, NONE_RAW.raw("b"));
        }
        FULL_RAW.becomes("unraw()", x -> x.unraw(), Kit.ALPHABET.indexOf(MOST.charAt(95)),
            FULL_RAW.raw(MOST.substring(0, 95)));
        NONE_RAW.raw("d").becomes("unraw() twice", x -> 100 * x.unraw() + x.unraw(), 300 + CsvDialect.NONE, NONE_RAW);
    }

    // Promise 14: "The length of the raw text."
    private static void rawLength() {
        for (int n : new int[] {0, 1, 2, 95, 96}) {
            NONE_RAW.raw(MOST.substring(0, n)).answers("rawLength()", x -> x.rawLength(), n);
        }
    }

    // Promise 15: "Character i of the raw text; NONE if there is none."
    private static void rawAt() {
        for (int n : new int[] {0, 1, 3, 95, 96}) {
            State state = NONE_RAW.raw(MOST.substring(0, n));
            if (n > 0) {
                state.answers("rawAt(0)", x -> x.rawAt(0), 0);
                int last = Kit.ALPHABET.indexOf(MOST.charAt(n - 1));
                state.answers("rawAt(" + (n - 1) + ")", x -> x.rawAt(n - 1), last);
            }
            for (int bad : Kit.outside(0, n - 1)) {
                state.refuses("rawAt(" + bad + ")", x -> x.rawAt(bad), CsvDialect.NONE);
            }
        }
        // What a longer text has left behind is not there any more.
        FULL_RAW.becomes("rawAt(95) behind unraw()", x -> 0 * x.unraw() + x.rawAt(95), CsvDialect.NONE,
            FULL_RAW.raw(MOST.substring(0, 95)));
    }

    // Promise 16: "The raw text becomes empty."
    private static void rawClear() {
        NONE_RAW.becomes("rawClear()", x -> x.rawClear(), NONE_RAW);
        NONE_RAW.raw("a").becomes("rawClear()", x -> x.rawClear(), NONE_RAW);
        FULL_RAW.becomes("rawClear()", x -> x.rawClear(), NONE_RAW);
        FULL_RAW.becomes("raw(1) behind rawClear()", x -> {
            x.rawClear();
            return x.raw(1);
        }, 1, NONE_RAW.raw("b"));
        FULL_RAW.becomes("rawAt(0) behind rawClear()", x -> {
            x.rawClear();
            return x.rawAt(0);
        }, CsvDialect.NONE, NONE_RAW);
    }
}
