/** The limits that 'Terms' names, each on both sides and on every way that leads there. */
public final class TermsBoundaryTest {
    private static final State SOME = new State("[cd|e][a]", "a,b", "bc");

    public static void main(String[] args) {
        lastPromisedCall();
        characters();
        charactersOfFields();
        records();
        fieldsOfRecords();
        lengthsOfFields();
        numberedFromZero();
        lengthOfRawText();
        dialects();
        Kit.finish();
    }

    // "An object is used for at most 512 calls after it has been made": the 512th is answered like the first.
    private static void lastPromisedCall() {
        CsvDialect x = new CsvDialect();
        for (int call = 1; call <= 511; call++) {
            int turn = call / 2;
            if (call % 2 == 1) {
                Kit.due("call " + call + ", raw", x.raw(turn % 11), turn < 96 ? turn + 1 : CsvDialect.FULL);
            } else {
                Kit.due("call " + call + ", draft", x.draft(turn % 10), turn <= 6 ? turn : CsvDialect.FULL);
            }
        }
        Kit.due("call 512, addRow", x.addRow(), 1);
    }

    // "CHARACTERS are numbers 0 to 10"
    private static void characters() {
        for (int c = 0; c <= 10; c++) {
            int character = c;
            SOME.becomes("raw(" + c + ")", x -> x.raw(character), 4, SOME.raw("a,b" + Kit.ALPHABET.charAt(c)));
        }
        for (int bad : Kit.outside(0, 10)) {
            SOME.refuses("raw(" + bad + ")", x -> x.raw(bad), CsvDialect.BAD_ARG);
        }
    }

    // "a field is a list of .. characters of 0 to 9 (never the escape)"
    private static void charactersOfFields() {
        for (int c = 0; c <= 9; c++) {
            int character = c;
            SOME.becomes("draft(" + c + ")", x -> x.draft(character), 3, SOME.draft("bc" + Kit.ALPHABET.charAt(c)));
        }
        for (int bad : Kit.outside(0, 9)) {
            SOME.refuses("draft(" + bad + ")", x -> x.draft(bad), CsvDialect.BAD_ARG);
        }
        // The escape does not get into a field from the raw text either.
        for (int d = 0; d < Dialect.COUNT; d++) {
            int dialect = d;
            for (String text : new String[] {"\\", "a\\", "\\a", "\"\\\"", "\"\\a\"", "\"\\\\\"", "\"a\"\\"}) {
                SOME.raw(text).refuses("read(" + d + ")", x -> x.read(dialect), CsvDialect.UNREADABLE);
            }
            State escaped = SOME.raw("\"\\\"\"");
            if (Dialect.escape(d)) {
                escaped.becomes("read(" + d + ")", x -> x.read(dialect), 1, escaped.table("[\"]"));
            } else {
                escaped.refuses("read(" + d + ")", x -> x.read(dialect), CsvDialect.UNREADABLE);
            }
        }
    }

    // "The TABLE has at most 6 RECORDS"
    private static void records() {
        State five = new State("[a][b][c][d][e]", "a\nb\nc\nd\ne", "aa");
        State six = new State("[a][b][c][d][e][a]", "a\nb\nc\nd\ne\na", "aa");
        five.becomes("addRow()", x -> x.addRow(), 6, five.table("[a][b][c][d][e][aa]").draft(""));
        six.refuses("addRow()", x -> x.addRow(), CsvDialect.FULL);
        State readFive = five.table("");
        State readSix = six.table("");
        readFive.becomes("read(2)", x -> x.read(2), 5, five);
        readSix.becomes("read(2)", x -> x.read(2), 6, six);
        State readSeven = SOME.raw("a\nb\nc\nd\ne\na\nb");
        readSeven.refuses("read(2)", x -> x.read(2), CsvDialect.FULL);
        readFive.becomes("addRow() behind read(2)", x -> x.read(2) + x.addRow(), 5 + 6,
            five.table("[a][b][c][d][e][aa]").draft(""));
        readSix.becomes("addRow() behind read(2)", x -> x.read(2) + x.addRow(), 6 + CsvDialect.FULL, six);
    }

    // "a record has 1 to 5 FIELDS"
    private static void fieldsOfRecords() {
        State none = new State("[a]", "", "");
        none.becomes("addRow()", x -> x.addRow(), 2, none.table("[a][]"));
        State four = new State("[a][a|b|c|d]", "a,b,c,d", "ee");
        State five = new State("[a][a|b|c|d|e]", "a,b,c,d,e", "ee");
        four.becomes("field()", x -> x.field(), 5, four.table("[a][a|b|c|d|ee]").draft(""));
        five.refuses("field()", x -> x.field(), CsvDialect.FULL);
        four.becomes("read(0)", x -> x.read(0), 1, four.table("[a|b|c|d]"));
        five.becomes("read(0)", x -> x.read(0), 1, five.table("[a|b|c|d|e]"));
        SOME.raw("a,b,c,d,e,").refuses("read(0)", x -> x.read(0), CsvDialect.FULL);
        four.becomes("field() behind read(0)", x -> x.read(0) + x.field(), 1 + 5,
            four.table("[a|b|c|d|ee]").draft(""));
        five.becomes("field() behind read(0)", x -> x.read(0) + x.field(), 1 + CsvDialect.FULL,
            five.table("[a|b|c|d|e]"));
        // A full record does not stand in the way of the next one.
        five.becomes("addRow() and field()", x -> 10 * x.addRow() + x.field(), 10 * 3 + 2,
            five.table("[a][a|b|c|d|e][ee|]").draft(""));
        // All records full at once.
        State full = new State("[a|b|c|d|e]".repeat(6), "", "aa");
        full.refuses("field()", x -> x.field(), CsvDialect.FULL);
        full.refuses("addRow()", x -> x.addRow(), CsvDialect.FULL);
    }

    // "a field is a list of 0 to 6 characters"
    private static void lengthsOfFields() {
        State five = new State("[e]", "abcde", "abcde");
        State six = new State("[e]", "abcdea", "abcdea");
        five.becomes("draft(3)", x -> x.draft(3), 6, five.draft("abcded"));
        six.refuses("draft(3)", x -> x.draft(3), CsvDialect.FULL);
        six.becomes("read(0)", x -> x.read(0), 1, six.table("[abcdea]"));
        SOME.raw("abcdeab").refuses("read(0)", x -> x.read(0), CsvDialect.FULL);
        State empty = new State("[e]", "\"\"", "");
        empty.becomes("put(0, 0)", x -> x.put(0, 0), 0, empty.table("[]"));
        empty.becomes("read(0)", x -> x.read(0), 1, empty.table("[]"));
        // The largest table of all.
        State largest = new State("[abcdea|,;\"\r\n,|bbbbbb|\"\"\"\"\"\"|eeeeee]".repeat(6), "", "");
        largest.answers("size(5, 4)", x -> x.size(5, 4), 6);
        largest.answers("at(5, 4, 5)", x -> x.at(5, 4, 5), 4);
    }

    // "Records, and the fields of a record, are numbered from 0 on."
    private static void numberedFromZero() {
        State state = new State("[a|bb|ccc][dddd]", "", "");
        state.answers("size(0, 0)", x -> x.size(0, 0), 1);
        state.answers("size(0, 2)", x -> x.size(0, 2), 3);
        state.answers("size(1, 0)", x -> x.size(1, 0), 4);
        state.refuses("size(0, 3)", x -> x.size(0, 3), CsvDialect.NONE);
        state.refuses("size(1, 1)", x -> x.size(1, 1), CsvDialect.NONE);
        state.refuses("size(2, 0)", x -> x.size(2, 0), CsvDialect.NONE);
        state.refuses("size(-1, 0)", x -> x.size(-1, 0), CsvDialect.NONE);
        state.refuses("size(0, -1)", x -> x.size(0, -1), CsvDialect.NONE);
    }

    // "a RAW TEXT of at most 96 characters"
    private static void lengthOfRawText() {
        String most = "abcde,;\"\r\n\\".repeat(9).substring(0, 96);
        State less = SOME.raw(most.substring(0, 95));
        State full = SOME.raw(most);
        less.becomes("raw(10)", x -> x.raw(10), 96, less.raw(most.substring(0, 95) + "\\"));
        full.refuses("raw(10)", x -> x.raw(10), CsvDialect.FULL);
        full.becomes("unraw() and raw(10)", x -> x.unraw() + x.raw(10), Kit.ALPHABET.indexOf(most.charAt(95)) + 96,
            less.raw(most.substring(0, 95) + "\\"));
        // A text that was written is as full as one that was typed in: 3 records of 32 with their ends.
        State written = new State("[aaaaaa|bbbbbb|cccccc|dddddd|eee]".repeat(3), "", "");
        String writing = "aaaaaa,bbbbbb,cccccc,dddddd,eee\n".repeat(3);
        written.becomes("raw(0) behind write(2)", x -> x.write(2) + x.raw(0), 96 + CsvDialect.FULL,
            written.raw(writing));
    }

    // "A DIALECT is a number 0 to 7"
    private static void dialects() {
        for (int d = 0; d < Dialect.COUNT; d++) {
            int dialect = d;
            State state = new State("[a]", "a", "bc");
            state.answers("written(" + d + ")", x -> x.written(dialect), Dialect.lineFeedOnly(d) ? 2 : 3);
            state.becomes("write(" + d + ")", x -> x.write(dialect), Dialect.lineFeedOnly(d) ? 2 : 3,
                state.raw("a" + Dialect.end(d)));
            state.answers("read(" + d + ")", x -> x.read(dialect), 1);
            state.answers("sound(" + d + ")", x -> x.sound(dialect), 1);
        }
        for (int bad : Kit.outside(0, 7)) {
            SOME.refuses("written(" + bad + ")", x -> x.written(bad), CsvDialect.BAD_ARG);
            SOME.refuses("write(" + bad + ")", x -> x.write(bad), CsvDialect.BAD_ARG);
            SOME.refuses("read(" + bad + ")", x -> x.read(bad), CsvDialect.BAD_ARG);
            SOME.refuses("sound(" + bad + ")", x -> x.sound(bad), CsvDialect.BAD_ARG);
        }
    }
}
