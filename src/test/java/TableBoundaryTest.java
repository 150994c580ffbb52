/** Promises 1 to 11: the boundary cases of each, with the whole state before and after each call. */
public final class TableBoundaryTest {
    private static final State SMALL = new State("[a][|bb|,;\"\r\nc]", "a\\", "de");
    private static final State LARGE = new State("[a|b|c|d|e]".repeat(6), "a\\", "de");

    public static void main(String[] args) {
        newObject();
        draft();
        scrap();
        addRow();
        field();
        put();
        clear();
        records();
        fields();
        size();
        at();
        Kit.finish();
    }

    // Promise 1: "The table, the raw text and the draft are empty."
    private static void newObject() {
        Kit.due("a new object", State.of(new CsvDialect()), State.EMPTY.toString());
        LARGE.make();
        Kit.due("a new object behind another one", State.of(new CsvDialect()), State.EMPTY.toString());
    }

    // Promise 2: "Tested in this order: c not 0 to 9 answers BAD_ARG; 6 characters answers FULL."
    private static void draft() {
        String most = "a,;\"\r\n";
        for (int n = 0; n < 6; n++) {
            State state = SMALL.draft(most.substring(0, n));
            state.becomes("draft(4)", x -> x.draft(4), n + 1, state.draft(most.substring(0, n) + "e"));
            state.refuses("draft(10)", x -> x.draft(10), CsvDialect.BAD_ARG);
            state.refuses("draft(-1)", x -> x.draft(-1), CsvDialect.BAD_ARG);
        }
        State full = SMALL.draft(most);
        full.refuses("draft(0)", x -> x.draft(0), CsvDialect.FULL);
        full.refuses("draft(9)", x -> x.draft(9), CsvDialect.FULL);
        for (int bad : Kit.outside(0, 9)) {
            full.refuses("draft(" + bad + ")", x -> x.draft(bad), CsvDialect.BAD_ARG);
        }
    }

    // Promise 3: "Empties the draft."
    private static void scrap() {
        for (String text : new String[] {"", "a", "abcdea"}) {
            SMALL.draft(text).becomes("scrap()", x -> x.scrap(), SMALL.draft(""));
            LARGE.draft(text).becomes("scrap()", x -> x.scrap(), LARGE.draft(""));
        }
        State full = SMALL.draft("abcdea");
        full.becomes("scrap() and draft(3)", x -> {
            x.scrap();
            return x.draft(3);
        }, 1, full.draft("d"));
    }

    // Promise 4: "the draft is empty afterwards. FULL if there are 6 records."
    private static void addRow() {
        for (String text : new String[] {"", "a", "abcdea"}) {
            for (int n = 0; n < 6; n++) {
                State state = new State("[b|c]".repeat(n), "a", text);
                state.becomes("addRow()", x -> x.addRow(), n + 1,
                    state.table("[b|c]".repeat(n) + "[" + text + "]").draft(""));
            }
            new State("[b|c]".repeat(6), "a", text).refuses("addRow()", x -> x.addRow(), CsvDialect.FULL);
        }
        LARGE.becomes("addRow() behind clear()", x -> {
            x.clear();
            return x.addRow();
        }, 1, LARGE.table("[de]").draft(""));
    }

    // Promise 5: "Tested in this order: no record answers NONE; 5 fields answers FULL."
    private static void field() {
        for (String text : new String[] {"", "a", "abcdea"}) {
            State none = new State("", "a", text);
            none.refuses("field()", x -> x.field(), CsvDialect.NONE);
            for (int n = 1; n < 5; n++) {
                String record = "[" + "c|".repeat(n - 1) + "c]";
                State state = new State("[a|b|c|d|e]" + record, "a", text);
                String longer = "[" + "c|".repeat(n) + text + "]";
                state.becomes("field()", x -> x.field(), n + 1, state.table("[a|b|c|d|e]" + longer).draft(""));
            }
            new State("[b][a|b|c|d|e]", "a", text).refuses("field()", x -> x.field(), CsvDialect.FULL);
            LARGE.draft(text).refuses("field()", x -> x.field(), CsvDialect.FULL);
        }
        // Only the last record counts.
        State shortLast = new State("[a|b|c|d|e][a]", "", "b");
        shortLast.becomes("field()", x -> x.field(), 2, shortLast.table("[a|b|c|d|e][a|b]").draft(""));
        // No record is tested first: what was a full record before clear is none.
        LARGE.becomes("field() behind clear()", x -> {
            x.clear();
            return x.field();
        }, CsvDialect.NONE, LARGE.table(""));
    }

    // Promise 6: "NONE if there is no such field. Otherwise the length of the new field."
    private static void put() {
        for (String text : new String[] {"", "a", "abcdea"}) {
            State state = SMALL.draft(text);
            int length = text.length();
            state.becomes("put(0, 0)", x -> x.put(0, 0), length,
                state.table("[" + text + "][|bb|,;\"\r\nc]").draft(""));
            state.becomes("put(1, 0)", x -> x.put(1, 0), length,
                state.table("[a][" + text + "|bb|,;\"\r\nc]").draft(""));
            state.becomes("put(1, 2)", x -> x.put(1, 2), length, state.table("[a][|bb|" + text + "]").draft(""));
        }
        noSuchField("put", (x, r, f) -> x.put(r, f));
        LARGE.becomes("put(5, 4)", x -> x.put(5, 4), 2,
            LARGE.table("[a|b|c|d|e]".repeat(5) + "[a|b|c|d|de]").draft(""));
    }

    private interface OnField {
        int call(CsvDialect x, int r, int f);
    }

    /** For a call that is refused with NONE: every neighbour of the fields of a table, and numbers that wrap around. */
    private static void noSuchField(String name, OnField on) {
        int[][] places = {
            {-1, 0}, {-1, 5}, {0, -1}, {0, 1}, {0, 5}, {1, -1}, {1, -5}, {1, 3}, {1, 5}, {2, 0}, {2, -1}, {6, 0},
            // Times 5, 6 or 30 these come out as small numbers.
            {858993459, 1}, {858993460, -4}, {-858993459, 0}, {0, 715827883}, {1, -715827882}, {143165577, -1},
            {1 << 30, 0}, {0, 1 << 30}, {1 << 31, 1}, {1, 1 << 31},
        };
        for (int[] place : places) {
            noField(SMALL, name, on, place[0], place[1]);
        }
        for (int r : Kit.outside(0, 1)) {
            noField(SMALL, name, on, r, 0);
        }
        for (int f : Kit.outside(0, 2)) {
            noField(SMALL, name, on, 0, f);
            noField(SMALL, name, on, 1, f);
        }
        noField(State.EMPTY, name, on, 0, 0);
        noField(State.EMPTY.draft("a"), name, on, 0, 0);
        noField(LARGE, name, on, 6, 0);
        noField(LARGE, name, on, 5, 5);
        noField(LARGE, name, on, 0, 5);
        noField(LARGE, name, on, 1, -1);
        noField(LARGE, name, on, -1, 4);
        LARGE.becomes(name + "(0, 0) behind clear()", x -> {
            x.clear();
            return on.call(x, 0, 0);
        }, CsvDialect.NONE, LARGE.table(""));
    }

    private static void noField(State state, String name, OnField on, int r, int f) {
        state.refuses(name + "(" + r + ", " + f + ")", x -> on.call(x, r, f), CsvDialect.NONE);
    }

    // Promise 7: "Removes all records."
    private static void clear() {
        State.EMPTY.becomes("clear()", x -> x.clear(), State.EMPTY);
        SMALL.becomes("clear()", x -> x.clear(), SMALL.table(""));
        LARGE.becomes("clear()", x -> x.clear(), LARGE.table(""));
        LARGE.becomes("clear() twice", x -> {
            x.clear();
            x.clear();
        }, LARGE.table(""));
        LARGE.becomes("clear(), addRow() and field()", x -> {
            x.clear();
            return 10 * x.addRow() + x.field();
        }, 10 + 2, LARGE.table("[de|]").draft(""));
    }

    // Promise 8: "The number of records."
    private static void records() {
        for (int n = 0; n <= 6; n++) {
            new State("[a|b]".repeat(n), "a", "b").answers("records()", x -> x.records(), n);
        }
    }

    // Promise 9: "The number of fields of record r; NONE if there is none."
    private static void fields() {
        SMALL.answers("fields(0)", x -> x.fields(0), 1);
        SMALL.answers("fields(1)", x -> x.fields(1), 3);
        for (int bad : Kit.outside(0, 1)) {
            SMALL.refuses("fields(" + bad + ")", x -> x.fields(bad), CsvDialect.NONE);
        }
        LARGE.answers("fields(0)", x -> x.fields(0), 5);
        LARGE.answers("fields(5)", x -> x.fields(5), 5);
        LARGE.refuses("fields(6)", x -> x.fields(6), CsvDialect.NONE);
        LARGE.refuses("fields(-1)", x -> x.fields(-1), CsvDialect.NONE);
        State.EMPTY.refuses("fields(0)", x -> x.fields(0), CsvDialect.NONE);
        LARGE.becomes("fields(0) behind clear()", x -> {
            x.clear();
            return x.fields(0);
        }, CsvDialect.NONE, LARGE.table(""));
    }

    // Promise 10: "The length of field f of record r; NONE if there is none."
    private static void size() {
        SMALL.answers("size(0, 0)", x -> x.size(0, 0), 1);
        SMALL.answers("size(1, 0)", x -> x.size(1, 0), 0);
        SMALL.answers("size(1, 2)", x -> x.size(1, 2), 6);
        LARGE.answers("size(5, 4)", x -> x.size(5, 4), 1);
        noSuchField("size", (x, r, f) -> x.size(r, f));
    }

    // Promise 11: "Character i of field f of record r; NONE if there is none."
    private static void at() {
        SMALL.answers("at(0, 0, 0)", x -> x.at(0, 0, 0), 0);
        SMALL.answers("at(1, 2, 0)", x -> x.at(1, 2, 0), 5);
        SMALL.answers("at(1, 2, 5)", x -> x.at(1, 2, 5), 2);
        LARGE.answers("at(5, 4, 0)", x -> x.at(5, 4, 0), 4);
        noSuchCharacter(0, 0, 1);
        noSuchCharacter(1, 0, 0);
        noSuchCharacter(1, 1, 2);
        noSuchCharacter(1, 2, 6);
        noSuchField("at", (x, r, f) -> x.at(r, f, 0));
        // What a longer field has left behind is not there any more.
        State longer = new State("[abcdea]", "", "b");
        longer.becomes("at(0, 0, 1) behind put(0, 0)", x -> x.put(0, 0) + x.at(0, 0, 1), 1 + CsvDialect.NONE,
            longer.table("[b]").draft(""));
        longer.draft("").becomes("at(0, 0, 0) behind put(0, 0)", x -> x.put(0, 0) + x.at(0, 0, 0),
            CsvDialect.NONE, State.EMPTY.table("[]"));
    }

    private static void noSuchCharacter(int r, int f, int size) {
        String call = "at(" + r + ", " + f + ", ";
        for (int i : Kit.outside(0, size - 1)) {
            SMALL.refuses(call + i + ")", x -> x.at(r, f, i), CsvDialect.NONE);
        }
        for (int i : new int[] {size, -1, 6, -6, 30, -30, 715827883}) {
            SMALL.refuses(call + i + ")", x -> x.at(r, f, i), CsvDialect.NONE);
        }
    }
}
