/** Promises 17 and 18: written and write. */
public final class WritingTest {
    private static final int[] NO_DIALECTS = {-1, 8, 9, 16, -8, Integer.MAX_VALUE, Integer.MIN_VALUE};

    public static void main(String[] args) {
        dialects();
        plainAndQuoted();
        emptyFields();
        changedFields();
        wrongDialects();
        limit();
        longest();
        leavesTheRest();
        Kit.finish();
    }

    private static void writes(CsvDialect x, int d, String want) {
        String call = "(" + d + ") of " + Kit.shown(Kit.tableOf(x));
        Kit.due("written" + call, x.written(d), want.length());
        Kit.due("write" + call, x.write(d), want.length());
        Kit.due("the raw text after write" + call, Kit.rawOf(x), want);
    }

    private static void dialects() {
        String[] writings = {
            "a,\"b\"\"\",c;\r\nd,\",\"\r\n", "a;\"b\"\"\";\"c;\"\r\nd;,\r\n",
            "a,\"b\"\"\",c;\nd,\",\"\n", "a;\"b\"\"\";\"c;\"\nd;,\n",
            "a,\"b\\\"\",c;\r\nd,\",\"\r\n", "a;\"b\\\"\";\"c;\"\r\nd;,\r\n",
            "a,\"b\\\"\",c;\nd,\",\"\n", "a;\"b\\\"\";\"c;\"\nd;,\n",
        };
        CsvDialect empty = new CsvDialect();
        for (int d = 0; d < 8; d++) {
            CsvDialect x = new CsvDialect();
            Kit.row(x, "a", "b\"", "c;");
            Kit.row(x, "d", ",");
            writes(x, d, writings[d]);
            Kit.raw(empty, "ab");
            writes(empty, d, "");
        }
    }

    private static void plainAndQuoted() {
        String[] fields = {"abcde", ",", ";", "\"", "\r", "\n", "a,", "a;", "a\"\"b", "a\r", "\nb", "\r\n"};
        String[] withComma = {"abcde", "\",\"", ";", "\"\"\"\"", "\"\r\"", "\"\n\"", "\"a,\"", "a;",
            "\"a\"\"\"\"b\"", "\"a\r\"", "\"\nb\"", "\"\r\n\""};
        for (int n = 0; n < fields.length; n++) {
            CsvDialect x = new CsvDialect();
            Kit.row(x, fields[n]);
            writes(x, 0, withComma[n] + "\r\n");
            writes(x, 2, withComma[n] + "\n");
        }
        CsvDialect y = new CsvDialect();
        Kit.row(y, "\"\"\"\"\"\"", ",;");
        writes(y, 3, "\"" + "\"\"".repeat(6) + "\";\",;\"\n");
        writes(y, 7, "\"" + "\\\"".repeat(6) + "\";\",;\"\n");
    }

    private static void emptyFields() {
        CsvDialect x = new CsvDialect();
        Kit.row(x, "");
        writes(x, 2, "\"\"\n");
        writes(x, 5, "\"\"\r\n");
        Kit.row(x, "", "");
        Kit.row(x, "", "a", "");
        Kit.row(x, "");
        writes(x, 2, "\"\"\n,\n,a,\n\"\"\n");
        writes(x, 1, "\"\"\r\n;\r\n;a;\r\n\"\"\r\n");
    }

    private static void changedFields() {
        CsvDialect x = new CsvDialect();
        Kit.row(x, "a,\"", "b\n");
        Kit.draft(x, "c");
        x.put(0, 0);
        Kit.draft(x, "d");
        x.put(0, 1);
        writes(x, 0, "c,d\r\n");
        x.clear();
        Kit.row(x, "e");
        writes(x, 2, "e\n");
    }

    private static void wrongDialects() {
        CsvDialect x = new CsvDialect();
        Kit.row(x, "a");
        Kit.raw(x, "cd");
        for (int bad : NO_DIALECTS) {
            Kit.due("written(" + bad + ")", x.written(bad), CsvDialect.BAD_ARG);
            Kit.due("write(" + bad + ")", x.write(bad), CsvDialect.BAD_ARG);
        }
        Kit.due("written leaves the raw text", x.written(0), 3);
        Kit.due("the raw text after refused writes", Kit.rawOf(x), "cd");
    }

    private static void limit() {
        CsvDialect x = new CsvDialect();
        for (int n = 0; n < 3; n++) {
            Kit.row(x, "aaaaaa", "bbbbbb", "cccccc", "eeee");
        }
        Kit.row(x, "aaaaaa", "bbb");
        Kit.raw(x, "cd");
        // Three records of 26 and one of 11, each with one or two characters behind: 89 + 4 or 8.
        Kit.due("written(2)", x.written(2), 3 * 26 + 11);
        Kit.due("written(0)", x.written(0), 3 * 27 + 12);
        Kit.draft(x, "aa");
        x.field();
        Kit.due("written(0) of 96", x.written(0), 96);
        Kit.due("write(0) of 96", x.write(0), 96);
        String record = "aaaaaa,bbbbbb,cccccc,eeee\r\n";
        Kit.due("the raw text of 96", Kit.rawOf(x), record + record + record + "aaaaaa,bbb,aa\r\n");
        Kit.draft(x, "aaa");
        x.put(3, 2);
        Kit.due("written(0) of 97", x.written(0), 97);
        x.rawClear();
        Kit.raw(x, "cd");
        Kit.due("write(0) of 97", x.write(0), CsvDialect.FULL);
        Kit.due("write(8), the argument first", x.write(8), CsvDialect.BAD_ARG);
        Kit.due("the raw text after a refused write", Kit.rawOf(x), "cd");
        Kit.due("write(2) of 93", x.write(2), 93);
    }

    private static void longest() {
        CsvDialect x = new CsvDialect();
        for (int n = 0; n < 6; n++) {
            Kit.draft(x, "\"\"\"\"\"\"");
            x.addRow();
            for (int f = 1; f < 5; f++) {
                Kit.draft(x, "\"\"\"\"\"\"");
                x.field();
            }
        }
        for (int d = 0; d < 8; d++) {
            Kit.due("written(" + d + ") of the longest", x.written(d), 6 * (5 * 14 + 4 + ((d & 2) == 0 ? 2 : 1)));
            Kit.due("write(" + d + ") of the longest", x.write(d), CsvDialect.FULL);
        }
    }

    private static void leavesTheRest() {
        CsvDialect x = new CsvDialect();
        Kit.row(x, "a\"", "");
        Kit.draft(x, "bc");
        Kit.due("write(4)", x.write(4), 8);
        Kit.due("write leaves the table", Kit.tableOf(x), "[a\"|]");
        Kit.due("write leaves the draft", x.draft(0), 3);
    }
}
