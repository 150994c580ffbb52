/** Promises 12 to 16: the raw text, character by character. */
public final class RawTest {
    public static void main(String[] args) {
        raw();
        unraw();
        rawAt();
        rawClear();
        Kit.finish();
    }

    private static void raw() {
        CsvDialect x = new CsvDialect();
        for (int n = 1; n <= 96; n++) {
            Kit.due("raw on " + (n - 1), x.raw(n % 11), n);
        }
        Kit.due("raw(0) on 96", x.raw(0), CsvDialect.FULL);
        Kit.due("raw(10) on 96", x.raw(10), CsvDialect.FULL);
        Kit.due("raw(11) on 96, the argument first", x.raw(11), CsvDialect.BAD_ARG);
        Kit.due("raw(-1) on 96, the argument first", x.raw(-1), CsvDialect.BAD_ARG);
        Kit.due("rawLength()", x.rawLength(), 96);
        for (int i = 0; i < 96; i++) {
            Kit.due("rawAt(" + i + ")", x.rawAt(i), (i + 1) % 11);
        }
        CsvDialect y = Kit.withRaw("ab");
        Kit.due("raw(11)", y.raw(11), CsvDialect.BAD_ARG);
        Kit.due("raw(-1)", y.raw(-1), CsvDialect.BAD_ARG);
        Kit.due("raw(max)", y.raw(Integer.MAX_VALUE), CsvDialect.BAD_ARG);
        Kit.due("raw(min)", y.raw(Integer.MIN_VALUE), CsvDialect.BAD_ARG);
        Kit.due("refused raws", Kit.rawOf(y), "ab");
        Kit.due("raw leaves the table", y.records(), 0);
        Kit.due("raw leaves the draft", y.draft(0), 1);
    }

    private static void unraw() {
        CsvDialect x = new CsvDialect();
        Kit.due("unraw() on nothing", x.unraw(), CsvDialect.NONE);
        Kit.due("rawLength()", x.rawLength(), 0);
        Kit.raw(x, Kit.ALPHABET);
        for (int c = 10; c >= 0; c--) {
            Kit.due("unraw()", x.unraw(), c);
            Kit.due("rawLength()", x.rawLength(), c);
            Kit.due("rawAt behind the end", x.rawAt(c), CsvDialect.NONE);
        }
        Kit.due("unraw() on nothing", x.unraw(), CsvDialect.NONE);
        Kit.due("raw(4) after unraw", x.raw(4), 1);
        Kit.due("rawAt(0)", x.rawAt(0), 4);
        for (int n = 2; n <= 96; n++) {
            x.raw(1);
        }
        Kit.due("unraw() on 96", x.unraw(), 1);
        Kit.due("raw(2) on 95", x.raw(2), 96);
        Kit.due("rawAt(95)", x.rawAt(95), 2);
    }

    private static void rawAt() {
        CsvDialect x = Kit.withRaw("c\\,");
        Kit.due("rawAt(0)", x.rawAt(0), 2);
        Kit.due("rawAt(1)", x.rawAt(1), 10);
        Kit.due("rawAt(2)", x.rawAt(2), 5);
        int[] outside = {-1, 3, 4, 95, 96, 97, Integer.MAX_VALUE, Integer.MIN_VALUE};
        for (int bad : outside) {
            Kit.due("rawAt(" + bad + ")", x.rawAt(bad), CsvDialect.NONE);
        }
        for (int n = 4; n <= 96; n++) {
            x.raw(0);
        }
        Kit.due("rawAt(95) on 96", x.rawAt(95), 0);
        Kit.due("rawAt(96) on 96", x.rawAt(96), CsvDialect.NONE);
    }

    private static void rawClear() {
        CsvDialect x = Kit.withRaw("a,b");
        Kit.row(x, "a", "b");
        Kit.draft(x, "c");
        x.rawClear();
        Kit.due("rawLength() after rawClear", x.rawLength(), 0);
        Kit.due("rawAt(0) after rawClear", x.rawAt(0), CsvDialect.NONE);
        Kit.due("unraw() after rawClear", x.unraw(), CsvDialect.NONE);
        Kit.due("rawClear leaves the table", Kit.tableOf(x), "[a|b]");
        Kit.due("rawClear leaves the draft", x.draft(0), 2);
        x.rawClear();
        Kit.due("raw(3) after rawClear", x.raw(3), 1);
        Kit.due("the raw text", Kit.rawOf(x), "d");
    }
}
