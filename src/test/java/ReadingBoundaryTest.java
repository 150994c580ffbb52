/** Promise 19, and READING in 'Terms': the boundary cases of each, in every dialect. */
public final class ReadingBoundaryTest {
    private static final State OLD = new State("[cd|e][b]", "", "ab");

    public static void main(String[] args) {
        for (int d = 0; d < Dialect.COUNT; d++) {
            emptyText(d);
            lastEndMissing(d);
            lastRecordEmpty(d);
            otherEnds(d);
            oneOrMoreFields(d);
            plainFields(d);
            notInPlainFields(d);
            quotedFields(d);
            notQuoted(d);
            partsInQuotes(d);
            quotesInQuotes(d);
            escapeInQuotes(d);
            oneResult(d);
            recordLimit(d);
            fieldLimit(d);
            lengthLimit(d);
            orderOfTests(d);
            afterRefusals(d);
        }
        wrongDialects();
        fullTextAndTable();
        Kit.finish();
    }

    /** The text told reads in dialect d as the table; both with the capitals of Dialect. */
    private static void reads(int d, String told, int records, String table) {
        State state = OLD.raw(Dialect.text(d, told));
        state.becomes("read(" + d + ")", x -> x.read(d), records, state.table(Dialect.text(d, table)));
    }

    private static void unreadable(int d, String told) {
        OLD.raw(Dialect.text(d, told)).refuses("read(" + d + ")", x -> x.read(d), CsvDialect.UNREADABLE);
    }

    private static void full(int d, String told) {
        OLD.raw(Dialect.text(d, told)).refuses("read(" + d + ")", x -> x.read(d), CsvDialect.FULL);
    }

    // "as a table without records if it is empty"
    private static void emptyText(int d) {
        reads(d, "", 0, "");
        reads(d, "a", 1, "[a]");
        reads(d, "S", 1, "[|]");
        reads(d, "E", 1, "[]");
    }

    // "each with its end (for the last record it may be missing"
    private static void lastEndMissing(int d) {
        reads(d, "aE", 1, "[a]");
        reads(d, "aEb", 2, "[a][b]");
        reads(d, "aEbE", 2, "[a][b]");
        reads(d, "aEbSE", 2, "[a][b|]");
        reads(d, "aEbS", 2, "[a][b|]");
        reads(d, "\"a\"E\"b\"", 2, "[a][b]");
        reads(d, "\"a\"E\"b\"E", 2, "[a][b]");
        // For a record that is not the last one it may not.
        unreadable(d, "\"a\"b");
        unreadable(d, "\"a\"bE");
        unreadable(d, "a\"b\"");
        unreadable(d, "a\"b\"E");
    }

    // "unless what there is of this record would be empty)"
    private static void lastRecordEmpty(int d) {
        reads(d, "E", 1, "[]");
        reads(d, "EE", 2, "[][]");
        reads(d, "aEE", 2, "[a][]");
        reads(d, "aEEb", 3, "[a][][b]");
        reads(d, "Ea", 2, "[][a]");
        reads(d, "aE\"\"", 2, "[a][]");
        reads(d, "aE\"\"E", 2, "[a][]");
        reads(d, "aES", 2, "[a][|]");
        reads(d, "\"\"", 1, "[]");
        reads(d, "\"\"E", 1, "[]");
    }

    // The end of the dialects of the other kind, and half an end, is none.
    private static void otherEnds(int d) {
        for (String before : new String[] {"", "a", "aS", "\"a\"", "aE", "aEb"}) {
            unreadable(d, before + "X");
            unreadable(d, before + "Xb");
            unreadable(d, before + "\r");
            unreadable(d, before + "\rb");
            unreadable(d, before + "\r\r\n");
            unreadable(d, before + "\n\r");
            unreadable(d, before + "E\r");
        }
        if (!Dialect.lineFeedOnly(d)) {
            unreadable(d, "\n\n");
            unreadable(d, "a\r\n\n");
        }
    }

    // "a WRITING OF A RECORD here is one or more fields with a separator between each two"
    private static void oneOrMoreFields(int d) {
        reads(d, "aSb", 1, "[a|b]");
        reads(d, "Sb", 1, "[|b]");
        reads(d, "aS", 1, "[a|]");
        reads(d, "SS", 1, "[||]");
        reads(d, "aOb", 1, "[aOb]");
        reads(d, "O", 1, "[O]");
        reads(d, "\"a\"S\"b\"", 1, "[a|b]");
        unreadable(d, "\"a\"O\"b\"");
        unreadable(d, "\"a\"Ob");
        reads(d, "aSbEcE", 2, "[a|b][c]");
    }

    // "any number (0 too) of characters that are neither .."
    private static void plainFields(int d) {
        reads(d, "SE", 1, "[|]");
        reads(d, "aSE", 1, "[a|]");
        reads(d, "abcdeO", 1, "[abcdeO]");
        reads(d, "abcdeOSOedcba", 1, "[abcdeO|Oedcba]");
        full(d, "abcdeOO");
    }

    // ".. the separator nor a quote, a carriage return, a line feed or the escape"
    private static void notInPlainFields(int d) {
        for (String not : new String[] {"\"", "\r", "\\", Dialect.lineFeedOnly(d) ? "\r" : "\n"}) {
            for (String field : new String[] {not, not + "ab", "a" + not + "b", "ab" + not, "O" + not}) {
                unreadable(d, field);
                unreadable(d, field + "E");
                unreadable(d, "aS" + field);
                unreadable(d, field + "Sa");
                unreadable(d, "aE" + field + "E");
            }
        }
    }

    // "or a quoted one: a quote, any number of parts, a quote"
    private static void quotedFields(int d) {
        reads(d, "\"\"", 1, "[]");
        reads(d, "\"a\"", 1, "[a]");
        reads(d, "\"abcdea\"", 1, "[abcdea]");
        reads(d, "\"\"S\"\"", 1, "[|]");
        reads(d, "\"a\"SbS\"c\"E", 1, "[a|b|c]");
        full(d, "\"abcdeab\"");
        full(d, "\"" + "a".repeat(94) + "\"");
    }

    // A quote too few, or something before the first quote or behind the second, and it is neither kind of field.
    private static void notQuoted(int d) {
        for (String field : new String[] {"\"", "\"a", "\"abS", "\"aE", "\"aEb\rS\n"}) {
            unreadable(d, field);
            unreadable(d, "aS" + field);
            unreadable(d, "aE" + field);
        }
        for (String field : new String[] {"a\"", "a\"b\"", "O\"b\"", "\"a\"b", "\"a\"O", "\"\"a", "\"a\"\\", "\\\"a\""}) {
            unreadable(d, field);
            unreadable(d, field + "E");
            unreadable(d, field + "Sa");
            unreadable(d, "aS" + field);
        }
    }

    // "a part is a character other than the quote and the escape"
    private static void partsInQuotes(int d) {
        for (String part : new String[] {"a", "b", "c", "d", "e", "S", "O", "\r", "\n"}) {
            reads(d, "\"" + part + "\"", 1, "[" + part + "]");
            reads(d, "\"" + part.repeat(6) + "\"E", 1, "[" + part.repeat(6) + "]");
            full(d, "\"" + part.repeat(7) + "\"");
            reads(d, "\"a" + part + "b\"Sc", 1, "[a" + part + "b|c]");
        }
        reads(d, "\"\r\n\"", 1, "[\r\n]");
        reads(d, "\"\n\r\"E", 1, "[\n\r]");
        unreadable(d, "\"\"\"");
        unreadable(d, "\"a\"\"");
        unreadable(d, "\"\"a\"");
        unreadable(d, "\"a\"b\"");
    }

    // "or a quote written as the dialect says"
    private static void quotesInQuotes(int d) {
        reads(d, "\"Q\"", 1, "[\"]");
        reads(d, "\"Qa\"", 1, "[\"a]");
        reads(d, "\"aQ\"", 1, "[a\"]");
        reads(d, "\"aQb\"Sc", 1, "[a\"b|c]");
        reads(d, "\"QQ\"E", 1, "[\"\"]");
        reads(d, "\"QQQQQQ\"", 1, "[\"\"\"\"\"\"]");
        full(d, "\"QQQQQQQ\"");
        for (String field : new String[] {"\"W\"", "\"Wa\"", "\"aW\"", "\"aWb\"", "\"QW\"", "\"WQ\""}) {
            unreadable(d, field);
            unreadable(d, field + "E");
        }
        unreadable(d, "\"Q");
        unreadable(d, "aQ");
    }

    // "(In a dialect with two quotes the escape can't stand inside quotes either."
    private static void escapeInQuotes(int d) {
        for (String field : new String[] {"\"\\\"", "\"a\\\"", "\"\\a\"", "\"a\\b\"", "\"\\\\\"", "\"\\S\"", "\"\\E\"",
            "\"\\", "\"\\\\\"\"", "\"\\\r\"", "\"\\\n\""}) {
            unreadable(d, field);
            unreadable(d, field + "Sa");
        }
        if (Dialect.escape(d)) {
            reads(d, "\"\\\"\"", 1, "[\"]");
        } else {
            unreadable(d, "\"\\\"\"");
        }
    }

    // "Reading never has two results.)"
    private static void oneResult(int d) {
        reads(d, "\"S\"", 1, "[S]");
        reads(d, "\"E\"", 1, "[E]");
        reads(d, "\"E\"E\"E\"", 2, "[E][E]");
        reads(d, "\"SQS\"", 1, "[S\"S]");
        reads(d, "\"QSQ\"", 1, "[\"S\"]");
        reads(d, "\"Q\"S\"Q\"", 1, "[\"|\"]");
        reads(d, "\"aQ\"S\"\"", 1, "[a\"|]");
    }

    // Promise 19: "it reads as a table with more than 6 records"
    private static void recordLimit(int d) {
        reads(d, "aEaEaEaEa", 5, "[a]".repeat(5));
        reads(d, "aEaEaEaEaEa", 6, "[a]".repeat(6));
        reads(d, "aEaEaEaEaEaE", 6, "[a]".repeat(6));
        full(d, "aEaEaEaEaEaEa");
        full(d, "aEaEaEaEaEaEaE");
        reads(d, "EEEEE", 5, "[]".repeat(5));
        reads(d, "EEEEEE", 6, "[]".repeat(6));
        full(d, "EEEEEEE");
        full(d, "EEEEEES");
        full(d, "EEEEEE\"\"");
        reads(d, "\"E\"E".repeat(6), 6, "[E]".repeat(6));
    }

    // "a record with more than 5 fields"
    private static void fieldLimit(int d) {
        reads(d, "aSbScSd", 1, "[a|b|c|d]");
        reads(d, "aSbScSdSe", 1, "[a|b|c|d|e]");
        full(d, "aSbScSdSeSa");
        reads(d, "SSSS", 1, "[||||]");
        full(d, "SSSSS");
        full(d, "SSSSSE");
        reads(d, "SSSSESSSSEa", 3, "[||||][||||][a]");
        full(d, "SSSSSEaEb");
        full(d, "aESSSSSEb");
        full(d, "aEbESSSSS");
        reads(d, "\"SSSSS\"", 1, "[SSSSS]");
        // Fields of several records are not counted together.
        reads(d, "aSbScEaSbScEaSbSc", 3, "[a|b|c]".repeat(3));
        reads(d, "SSSSE".repeat(6), 6, "[||||]".repeat(6));
    }

    // "or a field with more than 6 characters answers FULL"
    private static void lengthLimit(int d) {
        reads(d, "abcde", 1, "[abcde]");
        reads(d, "abcdea", 1, "[abcdea]");
        full(d, "abcdeab");
        full(d, "abcdeabE");
        full(d, "abcdeabSa");
        full(d, "aSabcdeab");
        full(d, "abcdeabEa");
        full(d, "aEabcdeab");
        full(d, "aEabcdeabSbEc");
        full(d, "\"abcdeQQ\"");
        reads(d, "\"abcdeQ\"", 1, "[abcde\"]");
        // Characters of several fields are not counted together.
        reads(d, "abcdSabcdEabcdS\"abcd\"", 2, "[abcd|abcd]".repeat(2));
        reads(d, "abcdeaS\"abcdea\"E\"abcdea\"", 2, "[abcdea|abcdea][abcdea]");
    }

    // "Tested in this order: d not 0 to 7 answers BAD_ARG; the raw text does not read answers UNREADABLE; .. FULL"
    private static void orderOfTests(int d) {
        String[] tooMuch = {"EEEEEEE", "SSSSS", "abcdeab", "\"abcdeab\"", "SSSSSEabcdeabEEEEEE"};
        for (String told : tooMuch) {
            full(d, told);
            for (String unread : new String[] {"S\\", "E\\", "S\"", "E\"a", "E\r", "EX", "Sa\"", "S\"\"a"}) {
                unreadable(d, told + unread);
            }
        }
        unreadable(d, "a\\" + "SSSSS");
        unreadable(d, "a\"E" + "EEEEEE");
    }

    // "A refused call .. changes nothing": the next one, on a text within the limits again, has nothing of it left.
    private static void afterRefusals(int d) {
        afterRefusal(d, "abcdea", "b", CsvDialect.FULL, 1, "[abcdea]");
        afterRefusal(d, "SSSS", "S", CsvDialect.FULL, 1, "[||||]");
        afterRefusal(d, "aEbEcEdEeEaE", "b", CsvDialect.FULL, 6, "[a][b][c][d][e][a]");
        afterRefusal(d, "abE\"cS\"", "\\", CsvDialect.UNREADABLE, 2, "[ab][cS]");
    }

    /** The text with one character more is refused; then that one is taken off. */
    private static void afterRefusal(int d, String told, String more, int code, int records, String table) {
        State before = OLD.raw(Dialect.text(d, told + more));
        State after = OLD.raw(Dialect.text(d, told)).table(Dialect.text(d, table));
        before.becomes("read(" + d + ") behind a refused one", x -> {
            Kit.due("read(" + d + ") with one character more", x.read(d), code);
            x.unraw();
            return x.read(d);
        }, records, after);
    }

    // "d not 0 to 7 answers BAD_ARG": before all else
    private static void wrongDialects() {
        for (String text : new String[] {"", "a", "\\", "a\"", "abcdeab", "\n\n\n\n\n\n\n", "a,b\r\n"}) {
            for (int bad : Kit.outside(0, 7)) {
                OLD.raw(text).refuses("read(" + bad + ")", x -> x.read(bad), CsvDialect.BAD_ARG);
            }
        }
    }

    // The longest raw texts, and the largest table before.
    private static void fullTextAndTable() {
        String most = "abcdea,abcdea\n".repeat(5) + "\"abcdea\",\"\"\"a\"\"\",b,\",\",\n";
        State text = OLD.raw(most + "\n".repeat(96 - most.length()));
        text.refuses("read(2)", x -> x.read(2), CsvDialect.FULL);
        State exact = OLD.raw("\"" + "\"\"".repeat(6) + "\",abcdea,abcdea,\n" + "abcdea,abcdea,abc,a,a\n".repeat(2)
            + "a\nb\nabcdea,abcdea,bcde");
        Kit.due("the length of the text", exact.make().rawLength(), 96);
        exact.becomes("read(2)", x -> x.read(2), 6, exact.table(
            "[\"\"\"\"\"\"|abcdea|abcdea|]" + "[abcdea|abcdea|abc|a|a]".repeat(2) + "[a][b][abcdea|abcdea|bcde]"));
        State large = new State("[aaaaaa|bbbbbb|cccccc|dddddd|eeeeee]".repeat(6), "", "ab");
        large.becomes("read(5)", x -> x.read(5), 0, large.table(""));
        large.raw(",\n").becomes("read(2)", x -> x.read(2), 1, large.raw(",\n").table("[|]"));
        large.raw("\\").refuses("read(2)", x -> x.read(2), CsvDialect.UNREADABLE);
        large.raw("abcdeab").refuses("read(2)", x -> x.read(2), CsvDialect.FULL);
    }
}
