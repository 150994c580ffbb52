/** Promises 21 and 22: even and guess. */
public final class EvenGuessTest {
    public static void main(String[] args) {
        emptyText();
        oneRecord();
        severalRecords();
        quotes();
        beyondTheLimits();
        leavesTheRest();
        Kit.finish();
    }

    private static void check(String text, int even, int guess) {
        CsvDialect x = Kit.withRaw(text);
        Kit.due("even() of " + Kit.shown(text), x.even(), even);
        Kit.due("guess() of " + Kit.shown(text), x.guess(), guess);
    }

    private static void emptyText() {
        check("", 255, CsvDialect.NONE);
        CsvDialect x = Kit.withRaw("a");
        x.unraw();
        Kit.due("even() of a text taken off", x.even(), 255);
        Kit.due("guess() of a text taken off", x.guess(), CsvDialect.NONE);
    }

    private static void oneRecord() {
        check("a", 255, 0);
        check("a,b", 255, 0);
        check("a;b", 255, 1);
        check("a;b,c", 255, 0);
        check("a;b,c;", 255, 1);
        check("\\", 0, CsvDialect.NONE);
        check("\"", 0, CsvDialect.NONE);
        check("\r", 0, CsvDialect.NONE);
    }

    private static void severalRecords() {
        check("\n", 4 + 8 + 64 + 128, 2);
        check("\r\n", 1 + 2 + 16 + 32, 0);
        check("a;b\nc;d\n", 4 + 8 + 64 + 128, 3);
        check("a,b\r\nc,d", 1 + 2 + 16 + 32, 0);
        check("a,b\nc", 8 + 128, 3);
        check("a,b\nc\n", 8 + 128, 3);
        check("a;b\r\nc", 1 + 16, 0);
        check("a,b\nc,d,e\n", 8 + 128, 3);
        check("a,b\n\n", 8 + 128, 3);
        check("a,b\nc;d\n", 0, CsvDialect.NONE);
        check("a,b\nc,d\ne\n", 8 + 128, 3);
        check("a\nb,c\nd,e\n", 8 + 128, 3);
        check("a,b;\n;c,d\n", 4 + 8 + 64 + 128, 2);
        check("a,b;;\n;c,;d\n", 4 + 8 + 64 + 128, 3);
        check("a\r\nb\n", 0, CsvDialect.NONE);
        check(",\n,,\n,\n", 8 + 128, 3);
    }

    private static void quotes() {
        check("\"\"\"\",a", 1 + 4, 0);
        check("\"\\\"\",a", 16 + 64, 4);
        check("\"\\\"\";a", 32 + 128, 5);
        check("\"\\\"\";a\n", 128, 7);
        check("\"a,b\"\nc\n", 4 + 8 + 64 + 128, 2);
        check("\"a\",b\nc,d\n", 4 + 64, 2);
    }

    private static void beyondTheLimits() {
        check("\n".repeat(96), 4 + 8 + 64 + 128, 2);
        check(",".repeat(96), 255, 0);
        check(";".repeat(96), 255, 1);
        check("a".repeat(96), 255, 0);
        check(";;;;;;;\n;;;;;;;\n", 4 + 8 + 64 + 128, 3);
        check(";;;;;;;\n;;;;;;;;\n", 4 + 64, 2);
        check("abcdeabcde,a\n".repeat(7), 4 + 8 + 64 + 128, 2);
    }

    private static void leavesTheRest() {
        CsvDialect x = Kit.withRaw("a,b\n");
        Kit.row(x, "cd", "e");
        Kit.draft(x, "bb");
        x.even();
        x.guess();
        Kit.due("the table after even and guess", Kit.tableOf(x), "[cd|e]");
        Kit.due("the raw text after even and guess", Kit.rawOf(x), "a,b\n");
        Kit.due("the draft after even and guess", x.draft(0), 3);
    }
}
