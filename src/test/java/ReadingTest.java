/** Promise 19: read. */
public final class ReadingTest {
    private static final String OLD = "[cd|e]";

    public static void main(String[] args) {
        readable();
        unreadable();
        limits();
        orderOfTests();
        wrongDialects();
        roundTrips();
        oneAfterTheOther();
        leavesTheRest();
        Kit.finish();
    }

    private static CsvDialect prepared(String text) {
        CsvDialect x = new CsvDialect();
        Kit.row(x, "cd", "e");
        Kit.raw(x, text);
        return x;
    }

    private static void reads(int d, String text, int records, String table) {
        CsvDialect x = prepared(text);
        String call = "read(" + d + ") of " + Kit.shown(text);
        Kit.due(call, x.read(d), records);
        Kit.due("the table after " + call, Kit.tableOf(x), table);
        Kit.due("the raw text after " + call, Kit.rawOf(x), text);
    }

    private static void refuses(int d, String text, int code) {
        reads(d, text, code, OLD);
    }

    private static void readable() {
        for (int d = 0; d < 8; d++) {
            reads(d, "", 0, "");
            reads(d, "a", 1, "[a]");
            reads(d, "\"\"", 1, "[]");
            reads(d, "\"\r\n,;\"", 1, "[\r\n,;]");
            reads(d, "\"\r\"", 1, "[\r]");
        }
        reads(0, "a,b\r\nc", 2, "[a|b][c]");
        reads(0, "a,b\r\nc\r\n", 2, "[a|b][c]");
        reads(0, "a;b\r\n", 1, "[a;b]");
        reads(1, "a;b,\r\n", 1, "[a|b,]");
        reads(2, "\n", 1, "[]");
        reads(2, "\n\n", 2, "[][]");
        reads(4, "\r\n\r\n", 2, "[][]");
        reads(2, "a\n\nb", 3, "[a][][b]");
        reads(2, ",", 1, "[|]");
        reads(2, ",\n", 1, "[|]");
        reads(3, "a;", 1, "[a|]");
        reads(3, ";a\n;", 2, "[|a][|]");
        reads(0, "\"\"\"\"", 1, "[\"]");
        reads(0, "\"a\"\"b\",\"\"\"\"\"\"\r\n", 1, "[a\"b|\"\"]");
        reads(6, "\"a\\\"b\",\"\\\"\\\"\"\n", 1, "[a\"b|\"\"]");
        reads(6, "\"\\\"\"", 1, "[\"]");
        reads(2, "\"a\"\n\"b\",c\n", 2, "[a][b|c]");
        reads(2, "\"\n\"\n", 1, "[\n]");
    }

    private static void unreadable() {
        String[] never = {
            "\"", "\"a", "a\"", "a\"b\"", "\"a\"b", "\"a\"c\"", "\\", "a\\", "\\\"", "\"\\\"",
            "\"\\a\"", "\"\\\\\"", "\"a\"\\", "\"\\", "a\r", "\r", "\r\r\n", "\n\r", "a\rb", "\"a\"\r", "a,\\,b", "\"\"\"",
        };
        for (int d = 0; d < 8; d++) {
            for (String text : never) {
                refuses(d, text, CsvDialect.UNREADABLE);
            }
        }
        for (int d = 0; d < 8; d++) {
            boolean lineFeedOnly = (d & 2) != 0;
            boolean escape = (d & 4) != 0;
            refuses(d, lineFeedOnly ? "a\r\n" : "a\n", CsvDialect.UNREADABLE);
            refuses(d, lineFeedOnly ? "\r\n" : "\n", CsvDialect.UNREADABLE);
            refuses(d, lineFeedOnly ? "\"a\"\r\n" : "\"a\"\n", CsvDialect.UNREADABLE);
            refuses(d, escape ? "\"\"\"\"" : "\"\\\"\"", CsvDialect.UNREADABLE);
            refuses(d, escape ? "\"a\"\"b\"" : "\"a\\\"b\"", CsvDialect.UNREADABLE);
            refuses(d, (d & 1) != 0 ? "\"a\",b" : "\"a\";b", CsvDialect.UNREADABLE);
        }
    }

    private static void limits() {
        reads(2, "\n\n\n\n\n\n", 6, "[][][][][][]");
        reads(2, "a\na\na\na\na\na", 6, "[a][a][a][a][a][a]");
        refuses(2, "\n\n\n\n\n\n\n", CsvDialect.FULL);
        refuses(2, "a\na\na\na\na\na\na", CsvDialect.FULL);
        reads(2, "a,b,c,d,e", 1, "[a|b|c|d|e]");
        reads(2, ",,,,\n,,,,", 2, "[||||][||||]");
        refuses(2, ",,,,,", CsvDialect.FULL);
        refuses(2, "a\n,,,,,\nb", CsvDialect.FULL);
        reads(2, "abcdea,\"\"\"\"\"\"\"\"\"\"\"\"\"\"", 1, "[abcdea|\"\"\"\"\"\"]");
        reads(2, "abcde\nabcde,abcde\n", 2, "[abcde][abcde|abcde]");
        refuses(2, "abcdeab", CsvDialect.FULL);
        refuses(2, "a,b\nabcdeab,b", CsvDialect.FULL);
        refuses(2, "\"abcdeab\"", CsvDialect.FULL);
        refuses(6, "\"" + "\\\"".repeat(7) + "\"", CsvDialect.FULL);
        refuses(2, "\"" + "\"\"".repeat(7) + "\"", CsvDialect.FULL);
        refuses(2, "\n".repeat(96), CsvDialect.FULL);
        refuses(2, ",".repeat(96), CsvDialect.FULL);
        refuses(2, "a".repeat(96), CsvDialect.FULL);
        refuses(3, "\"" + "a".repeat(94) + "\"", CsvDialect.FULL);
    }

    private static void orderOfTests() {
        refuses(8, "abcdeab\"", CsvDialect.BAD_ARG);
        refuses(-1, "abcdeab", CsvDialect.BAD_ARG);
        refuses(2, "abcdeab\"", CsvDialect.UNREADABLE);
        refuses(2, "\n\n\n\n\n\n\n\"", CsvDialect.UNREADABLE);
        refuses(2, ",,,,,,,\\", CsvDialect.UNREADABLE);
    }

    private static void wrongDialects() {
        int[] noDialects = {-1, 8, 9, 16, -8, Integer.MAX_VALUE, Integer.MIN_VALUE};
        for (int bad : noDialects) {
            refuses(bad, "a", CsvDialect.BAD_ARG);
            refuses(bad, "", CsvDialect.BAD_ARG);
        }
    }

    private static void roundTrips() {
        for (int d = 0; d < 8; d++) {
            CsvDialect x = new CsvDialect();
            Kit.row(x, "\"", "", ",;", "\r\n", "ab");
            Kit.row(x, "");
            Kit.row(x, "", "");
            Kit.row(x, "\n\"a\"\r", ";", ",");
            String before = Kit.tableOf(x);
            x.write(d);
            x.clear();
            Kit.due("read(" + d + ") of a writing", x.read(d), 4);
            Kit.due("the table read back in " + d, Kit.tableOf(x), before);
        }
    }

    private static void oneAfterTheOther() {
        CsvDialect x = Kit.withRaw("abcdeab");
        Kit.due("read(2) of a long field", x.read(2), CsvDialect.FULL);
        x.rawClear();
        Kit.raw(x, ",,,,,");
        Kit.due("read(2) of many fields", x.read(2), CsvDialect.FULL);
        x.rawClear();
        Kit.raw(x, "\n\n\n\n\n\n\n");
        Kit.due("read(2) of many records", x.read(2), CsvDialect.FULL);
        x.rawClear();
        Kit.raw(x, "abc,d\ne\n\"");
        Kit.due("read(2) of an open quote", x.read(2), CsvDialect.UNREADABLE);
        x.unraw();
        Kit.due("read(2) after refusals", x.read(2), 2);
        Kit.due("the table after refusals", Kit.tableOf(x), "[abc|d][e]");
        x.rawClear();
        Kit.raw(x, ",a");
        Kit.due("read(2) of a smaller table", x.read(2), 1);
        Kit.due("the smaller table", Kit.tableOf(x), "[|a]");
    }

    private static void leavesTheRest() {
        CsvDialect x = Kit.withRaw("a,b");
        Kit.draft(x, "cd");
        Kit.due("read(0)", x.read(0), 1);
        Kit.due("read leaves the draft", x.draft(4), 3);
        Kit.due("field() after read", x.field(), 3);
        Kit.due("the table after read and field", Kit.tableOf(x), "[a|b|cde]");
        x.rawClear();
        Kit.due("read(3) of nothing", x.read(3), 0);
        Kit.due("field() on the table read", x.field(), CsvDialect.NONE);
        Kit.due("addRow() on the table read", x.addRow(), 1);
    }
}
