import java.util.Arrays;

/** What the tests share: the count of wrong answers, and texts in place of numbers. */
final class Kit {
    /** The character with the number n stands at n: five letters, then , ; " CR LF and the escape. */
    static final String ALPHABET = "abcde,;\"\r\n\\";

    private static int wrong = 0;
    private static int asked = 0;

    private Kit() {
    }

    static void due(String call, long got, long want) {
        asked++;
        if (got != want) {
            report(call, Long.toString(got), Long.toString(want));
        }
    }

    static void due(String call, String got, String want) {
        asked++;
        if (!got.equals(want)) {
            report(call, shown(got), shown(want));
        }
    }

    private static void report(String call, String got, String want) {
        wrong++;
        if (wrong <= 50) {
            System.out.println(call + " answered " + got + ", due is " + want);
        }
    }

    static void finish() {
        System.out.println(asked + " answers, " + wrong + " wrong");
        if (wrong != 0 || asked == 0) {
            System.exit(1);
        }
    }

    static String shown(String text) {
        return "<" + text.replace("\r", "{CR}").replace("\n", "{LF}") + ">";
    }

    static void draft(CsvDialect x, String text) {
        for (int i = 0; i < text.length(); i++) {
            due("draft " + shown(text) + " at " + i, x.draft(ALPHABET.indexOf(text.charAt(i))), i + 1);
        }
    }

    /** Appends a record with these fields; the draft must be empty before. */
    static void row(CsvDialect x, String... fields) {
        int before = x.records();
        draft(x, fields[0]);
        due("addRow()", x.addRow(), before + 1);
        for (int f = 1; f < fields.length; f++) {
            draft(x, fields[f]);
            due("field()", x.field(), f + 1);
        }
    }

    static void raw(CsvDialect x, String text) {
        for (int i = 0; i < text.length(); i++) {
            x.raw(ALPHABET.indexOf(text.charAt(i)));
        }
    }

    static CsvDialect withRaw(String text) {
        CsvDialect x = new CsvDialect();
        raw(x, text);
        return x;
    }

    static String rawOf(CsvDialect x) {
        StringBuilder text = new StringBuilder();
        int length = x.rawLength();
        for (int i = 0; i < length; i++) {
            text.append(letter(x.rawAt(i)));
        }
        return text.toString();
    }

    /** The table as text: each record in brackets, its fields with a bar between each two. */
    static String tableOf(CsvDialect x) {
        StringBuilder text = new StringBuilder();
        int records = x.records();
        for (int r = 0; r < records; r++) {
            int fields = x.fields(r);
            for (int f = 0; f < fields; f++) {
                text.append(f == 0 ? '[' : '|');
                int size = x.size(r, f);
                for (int i = 0; i < size; i++) {
                    text.append(letter(x.at(r, f, i)));
                }
            }
            text.append(']');
        }
        return text.toString();
    }

    /**
     * Numbers out of the range low to high: the next ones on both sides, some that would be in it if only their low
     * bits were looked at, and the outermost ones.
     */
    static int[] outside(int low, int high) {
        int[] numbers = {
            low - 1, low - 2, low - 16, high + 1, high + 2, high + 16, low + 256, high + 256, high - 256,
            low + (1 << 16), high + (1 << 16), high - (1 << 16), low + (1 << 30), high - (1 << 30),
            Integer.MIN_VALUE, Integer.MIN_VALUE + high, Integer.MAX_VALUE - 1, Integer.MAX_VALUE,
        };
        return Arrays.stream(numbers).filter(n -> n < low || n > high).distinct().toArray();
    }

    private static char letter(int c) {
        return c >= 0 && c < ALPHABET.length() ? ALPHABET.charAt(c) : '?';
    }
}
