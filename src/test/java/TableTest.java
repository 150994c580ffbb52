/** Promises 1 to 11: a new object, the draft and the table. */
public final class TableTest {
    private static final int[] OUTSIDE = {-1, -2, 6, 7, 100, Integer.MAX_VALUE, Integer.MIN_VALUE, 1 << 30, -(1 << 29)};

    public static void main(String[] args) {
        newObject();
        draft();
        scrap();
        addRow();
        field();
        put();
        clear();
        counts();
        at();
        Kit.finish();
    }

    private static void newObject() {
        CsvDialect x = new CsvDialect();
        Kit.due("new: records()", x.records(), 0);
        Kit.due("new: rawLength()", x.rawLength(), 0);
        Kit.due("new: fields(0)", x.fields(0), CsvDialect.NONE);
        Kit.due("new: rawAt(0)", x.rawAt(0), CsvDialect.NONE);
        Kit.due("new: draft(3)", x.draft(3), 1);
        Kit.due("new: addRow()", new CsvDialect().addRow(), 1);
        CsvDialect y = new CsvDialect();
        y.addRow();
        Kit.due("new: the draft as a field", Kit.tableOf(y), "[]");
        Kit.due("two objects share nothing", new CsvDialect().records(), 0);
    }

    private static void draft() {
        CsvDialect x = new CsvDialect();
        for (int c = 0; c <= 5; c++) {
            Kit.due("draft(" + c + ")", x.draft(c), c + 1);
        }
        Kit.due("draft(0) on 6", x.draft(0), CsvDialect.FULL);
        Kit.due("draft(9) on 6", x.draft(9), CsvDialect.FULL);
        Kit.due("draft(10) on 6, the argument first", x.draft(10), CsvDialect.BAD_ARG);
        Kit.due("draft(-1) on 6, the argument first", x.draft(-1), CsvDialect.BAD_ARG);
        x.addRow();
        Kit.due("the draft after refusals", Kit.tableOf(x), "[abcde,]");
        Kit.due("draft(10)", x.draft(10), CsvDialect.BAD_ARG);
        Kit.due("draft(11)", x.draft(11), CsvDialect.BAD_ARG);
        Kit.due("draft(-1)", x.draft(-1), CsvDialect.BAD_ARG);
        Kit.due("draft(max)", x.draft(Integer.MAX_VALUE), CsvDialect.BAD_ARG);
        Kit.due("draft(min)", x.draft(Integer.MIN_VALUE), CsvDialect.BAD_ARG);
        for (int c = 6; c <= 9; c++) {
            Kit.due("draft(" + c + ")", x.draft(c), c - 5);
        }
        x.addRow();
        Kit.due("the second draft", Kit.tableOf(x), "[abcde,][;\"\r\n]");
    }

    private static void scrap() {
        CsvDialect x = new CsvDialect();
        x.scrap();
        Kit.draft(x, "abc");
        x.scrap();
        Kit.draft(x, "d");
        x.addRow();
        Kit.due("after scrap", Kit.tableOf(x), "[d]");
        Kit.draft(x, "aaaaaa");
        x.scrap();
        Kit.draft(x, "bbbbbb");
        Kit.due("scrap leaves the table", Kit.tableOf(x), "[d]");
    }

    private static void addRow() {
        CsvDialect x = new CsvDialect();
        Kit.row(x, "ab");
        Kit.due("addRow() with an empty draft", x.addRow(), 2);
        for (int n = 3; n <= 6; n++) {
            Kit.draft(x, "c");
            Kit.due("addRow()", x.addRow(), n);
        }
        Kit.draft(x, "de");
        Kit.due("addRow() on 6", x.addRow(), CsvDialect.FULL);
        Kit.due("addRow() on 6", x.addRow(), CsvDialect.FULL);
        Kit.due("a refused addRow", Kit.tableOf(x), "[ab][][c][c][c][c]");
        Kit.due("a refused addRow keeps the draft", x.draft(0), 3);
        Kit.due("field()", x.field(), 2);
        Kit.due("the kept draft", Kit.tableOf(x), "[ab][][c][c][c][c|dea]");
        x.clear();
        x.addRow();
        Kit.due("a new record starts anew", Kit.tableOf(x), "[]");
    }

    private static void field() {
        CsvDialect x = new CsvDialect();
        Kit.draft(x, "a");
        Kit.due("field() without a record", x.field(), CsvDialect.NONE);
        Kit.due("a refused field keeps the draft", x.draft(1), 2);
        Kit.due("addRow()", x.addRow(), 1);
        Kit.row(x, "c", "", "d", "ee");
        Kit.due("fields", Kit.tableOf(x), "[ab][c||d|ee]");
        Kit.draft(x, "bbbbbb");
        Kit.due("field()", x.field(), 5);
        Kit.draft(x, "a");
        Kit.due("field() on 5", x.field(), CsvDialect.FULL);
        Kit.due("a refused field", Kit.tableOf(x), "[ab][c||d|ee|bbbbbb]");
        Kit.due("a refused field keeps the draft", x.draft(1), 2);
        x.addRow();
        Kit.due("the kept draft", Kit.tableOf(x), "[ab][c||d|ee|bbbbbb][ab]");
        x.clear();
        Kit.due("field() after clear", x.field(), CsvDialect.NONE);
    }

    private static void put() {
        CsvDialect x = new CsvDialect();
        Kit.draft(x, "ab");
        Kit.due("put on an empty table", x.put(0, 0), CsvDialect.NONE);
        Kit.due("a refused put keeps the draft", x.draft(2), 3);
        x.addRow();
        Kit.row(x, "a", "b", "c");
        Kit.draft(x, ",;\"\r\n");
        Kit.due("put(1, 1)", x.put(1, 1), 5);
        Kit.due("after put", Kit.tableOf(x), "[abc][a|,;\"\r\n|c]");
        Kit.due("put(0, 0) with an empty draft", x.put(0, 0), 0);
        Kit.due("after put", Kit.tableOf(x), "[][a|,;\"\r\n|c]");
        Kit.draft(x, "eeeeee");
        for (int bad : OUTSIDE) {
            Kit.due("put(" + bad + ", 0)", x.put(bad, 0), CsvDialect.NONE);
            Kit.due("put(0, " + bad + ")", x.put(0, bad), CsvDialect.NONE);
        }
        Kit.due("put(0, 1)", x.put(0, 1), CsvDialect.NONE);
        Kit.due("put(1, 3)", x.put(1, 3), CsvDialect.NONE);
        Kit.due("put(1, -1)", x.put(1, -1), CsvDialect.NONE);
        Kit.due("put(2, 0)", x.put(2, 0), CsvDialect.NONE);
        Kit.due("refused puts", Kit.tableOf(x), "[][a|,;\"\r\n|c]");
        Kit.due("put(1, 2)", x.put(1, 2), 6);
        Kit.due("the draft is empty after put", x.draft(4), 1);
        Kit.due("after put", Kit.tableOf(x), "[][a|,;\"\r\n|eeeeee]");
    }

    private static void clear() {
        CsvDialect x = new CsvDialect();
        x.clear();
        Kit.row(x, "ab", "c");
        Kit.row(x, "d");
        Kit.raw(x, "a,b");
        Kit.draft(x, "ee");
        x.clear();
        Kit.due("records() after clear", x.records(), 0);
        Kit.due("fields(0) after clear", x.fields(0), CsvDialect.NONE);
        Kit.due("size(0, 0) after clear", x.size(0, 0), CsvDialect.NONE);
        Kit.due("at(0, 0, 0) after clear", x.at(0, 0, 0), CsvDialect.NONE);
        Kit.due("put(0, 0) after clear", x.put(0, 0), CsvDialect.NONE);
        Kit.due("clear leaves the raw text", Kit.rawOf(x), "a,b");
        Kit.due("clear leaves the draft", x.draft(0), 3);
        Kit.due("addRow() after clear", x.addRow(), 1);
        Kit.due("the table after clear", Kit.tableOf(x), "[eea]");
    }

    private static void counts() {
        CsvDialect x = new CsvDialect();
        for (int n = 1; n <= 6; n++) {
            x.addRow();
            Kit.due("records()", x.records(), n);
            Kit.due("fields(" + n + ")", x.fields(n), CsvDialect.NONE);
            for (int k = 2; k < n; k++) {
                Kit.draft(x, "abcde,".substring(0, k));
                x.field();
            }
        }
        for (int r = 0; r < 6; r++) {
            int count = r < 2 ? 1 : r;
            Kit.due("fields(" + r + ")", x.fields(r), count);
            Kit.due("size(" + r + ", 0)", x.size(r, 0), 0);
            for (int f = 1; f < count; f++) {
                Kit.due("size(" + r + ", " + f + ")", x.size(r, f), f + 1);
            }
            Kit.due("size behind the last field of " + r, x.size(r, count), CsvDialect.NONE);
        }
        for (int bad : OUTSIDE) {
            Kit.due("fields(" + bad + ")", x.fields(bad), CsvDialect.NONE);
            Kit.due("size(" + bad + ", 0)", x.size(bad, 0), CsvDialect.NONE);
            Kit.due("size(1, " + bad + ")", x.size(1, bad), CsvDialect.NONE);
        }
        Kit.due("size(1, -1)", x.size(1, -1), CsvDialect.NONE);
    }

    private static void at() {
        CsvDialect x = new CsvDialect();
        Kit.row(x, "abc", "\"");
        Kit.row(x, "", ",;\r\ned");
        Kit.due("at(0, 0, 0)", x.at(0, 0, 0), 0);
        Kit.due("at(0, 0, 2)", x.at(0, 0, 2), 2);
        Kit.due("at(0, 0, 3)", x.at(0, 0, 3), CsvDialect.NONE);
        Kit.due("at(0, 0, -1)", x.at(0, 0, -1), CsvDialect.NONE);
        Kit.due("at(0, 1, 0)", x.at(0, 1, 0), 7);
        Kit.due("at(0, 1, 1)", x.at(0, 1, 1), CsvDialect.NONE);
        Kit.due("at(0, 1, -1)", x.at(0, 1, -1), CsvDialect.NONE);
        Kit.due("at(1, 0, 0)", x.at(1, 0, 0), CsvDialect.NONE);
        Kit.due("at(1, 1, 3)", x.at(1, 1, 3), 9);
        Kit.due("at(1, 1, 5)", x.at(1, 1, 5), 3);
        Kit.due("at(1, 1, 6)", x.at(1, 1, 6), CsvDialect.NONE);
        Kit.due("at(1, 2, 0)", x.at(1, 2, 0), CsvDialect.NONE);
        Kit.due("at(2, 0, 0)", x.at(2, 0, 0), CsvDialect.NONE);
        for (int bad : OUTSIDE) {
            Kit.due("at(" + bad + ", 0, 0)", x.at(bad, 0, 0), CsvDialect.NONE);
            Kit.due("at(0, " + bad + ", 0)", x.at(0, bad, 0), CsvDialect.NONE);
            Kit.due("at(0, 0, " + bad + ")", x.at(0, 0, bad), CsvDialect.NONE);
        }
        Kit.draft(x, "d");
        x.put(0, 0);
        Kit.due("at(0, 0, 1) of a field made shorter", x.at(0, 0, 1), CsvDialect.NONE);
    }
}
