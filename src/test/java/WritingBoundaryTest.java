/** Promises 17 and 18, and WRITING in 'Terms': the boundary cases of each, in every dialect. */
public final class WritingBoundaryTest {
    private static final int LIMIT = 96;

    public static void main(String[] args) {
        for (int d = 0; d < Dialect.COUNT; d++) {
            recordsInOrder(d);
            separators(d);
            ends(d);
            plainUnless(d);
            emptyAndOnlyField(d);
            quoted(d);
            writtenCounts(d);
            writeUpToTheLimit(d);
            writeOfQuotesUpToTheLimit(d);
        }
        wrongDialects();
        orderOfTests();
        Kit.finish();
    }

    /** The table is written in dialect d as the text told; table and text with the capitals of Dialect. */
    private static void writes(int d, String table, String told) {
        String text = Dialect.text(d, told);
        State state = new State(Dialect.text(d, table), "c\\d", "ab");
        state.answers("written(" + d + ")", x -> x.written(d), text.length());
        state.becomes("write(" + d + ")", x -> x.write(d), text.length(), state.raw(text));
    }

    // "the records in order": none, one, six
    private static void recordsInOrder(int d) {
        writes(d, "", "");
        writes(d, "[a]", "aE");
        writes(d, "[a][b]", "aEbE");
        writes(d, "[a][b][c][d][e][a]", "aEbEcEdEeEaE");
    }

    // "each as its fields in order with a separator between each two": none for one field, four for five
    private static void separators(int d) {
        writes(d, "[a|b]", "aSbE");
        writes(d, "[a|b|c|d|e]", "aSbScSdSeE");
        writes(d, "[a|b|c|d|e][b][a|b]", "aSbScSdSeEbEaSbE");
    }

    // "and an end behind it": behind the last record too
    private static void ends(int d) {
        writes(d, "[ab|cd][e]", "abScdEeE");
        writes(d, "[ab|\"]", "abS\"Q\"E");
    }

    // "PLAIN, as it is, unless it has the separator, a quote, a carriage return or a line feed"
    private static void plainUnless(int d) {
        for (String plain : new String[] {"a", "b", "c", "d", "e", "O"}) {
            inEveryPlace(d, plain, plain, "");
        }
        for (String special : new String[] {"S", "\r", "\n"}) {
            inEveryPlace(d, special, special, "\"");
        }
        inEveryPlace(d, "\"", "Q", "\"");
        writes(d, "[\r\n]", "\"\r\n\"E");
        writes(d, "[abcdeO]", "abcdeOE");
        writes(d, "[abcdeS]", "\"abcdeS\"E");
        // Quotes are put around the one field that needs them, not around its neighbours.
        writes(d, "[a|S|b][c]", "aS\"S\"SbEcE");
        writes(d, "[S|a|\"]", "\"S\"SaS\"Q\"E");
    }

    /** A field with the character alone, at its start, in its middle and at its end. */
    private static void inEveryPlace(int d, String character, String inText, String around) {
        writes(d, "[" + character + "]", around + inText + around + "E");
        writes(d, "[" + character + "ab]", around + inText + "ab" + around + "E");
        writes(d, "[a" + character + "b]", around + "a" + inText + "b" + around + "E");
        writes(d, "[ab" + character + "]", around + "ab" + inText + around + "E");
        writes(d, "[d|abcde" + character + "]", "dS" + around + "abcde" + inText + around + "E");
    }

    // "or is empty and the only field of its record": empty, but not the only one; the only one, but not empty
    private static void emptyAndOnlyField(int d) {
        writes(d, "[]", "\"\"E");
        writes(d, "[|]", "SE");
        writes(d, "[a|]", "aSE");
        writes(d, "[|a]", "SaE");
        writes(d, "[a||b]", "aSSbE");
        writes(d, "[||||]", "SSSSE");
        writes(d, "[][]", "\"\"E\"\"E");
        writes(d, "[a][][b|]", "aE\"\"EbSE");
        writes(d, "[][][][][][]", "\"\"E".repeat(6));
        // A field that becomes the only empty one, and one that stops to be it.
        State made = new State("[a]", "", "");
        made.becomes("written(" + d + ") behind put(0, 0)", x -> 10 * x.put(0, 0) + x.written(d),
            Dialect.text(d, "\"\"E").length(), made.table("[]"));
        State more = new State("[]", "", "");
        more.becomes("written(" + d + ") behind field()", x -> 10 * x.field() + x.written(d),
            20 + Dialect.text(d, "SE").length(), more.table("[|]"));
    }

    // "QUOTED: a quote, its characters with each quote written as the dialect says, a quote"
    private static void quoted(int d) {
        writes(d, "[\"]", "\"Q\"E");
        writes(d, "[\"\"]", "\"QQ\"E");
        writes(d, "[\"\"\"\"\"\"]", "\"QQQQQQ\"E");
        writes(d, "[\"a\"]", "\"QaQ\"E");
        writes(d, "[S\"\r\"\nO]", "\"SQ\rQ\nO\"E");
        writes(d, "[\"|\"][\"]", "\"Q\"S\"Q\"E\"Q\"E");
    }

    // Promise 17: "The number of characters of the writing": also where it is more than the raw text can hold
    private static void writtenCounts(int d) {
        int end = Dialect.end(d).length();
        State plain = new State("[aaaaaa|bbbbbb|cccccc|dddddd|eeeeee]".repeat(6), "a", "");
        plain.answers("written(" + d + ")", x -> x.written(d), 6 * (34 + end));
        plain.refuses("write(" + d + ")", x -> x.write(d), CsvDialect.FULL);
        String six = "\"\"\"\"\"\"";
        String record = "[" + six + "|" + six + "|" + six + "|" + six + "|" + six + "]";
        State longest = new State(record.repeat(6), "a", "");
        longest.answers("written(" + d + ")", x -> x.written(d), 6 * (74 + end));
        longest.refuses("write(" + d + ")", x -> x.write(d), CsvDialect.FULL);
    }

    // Promise 18: "the writing has more than 96 characters answers FULL"
    private static void writeUpToTheLimit(int d) {
        int besideLetters = 3 * (4 + Dialect.end(d).length());
        for (int length = LIMIT - 1; length <= LIMIT + 2; length++) {
            String table = lettersIn(length - besideLetters);
            String text = table.replace("[", "").replace("|", Dialect.text(d, "S")).replace("]", Dialect.end(d));
            limit(d, table, text, length);
        }
    }

    private static void limit(int d, String table, String text, int length) {
        Kit.due("the length of the text", text.length(), length);
        State state = new State(table, "c\\d", "ab");
        state.answers("written(" + d + ")", x -> x.written(d), length);
        if (length <= LIMIT) {
            state.becomes("write(" + d + ")", x -> x.write(d), length, state.raw(text));
        } else {
            state.refuses("write(" + d + ")", x -> x.write(d), CsvDialect.FULL);
        }
    }

    /** Three records of five fields, with so many letters in all. */
    private static String lettersIn(int letters) {
        StringBuilder table = new StringBuilder();
        int left = letters;
        for (int place = 0; place < 15; place++) {
            int size = Math.min(left, 6);
            table.append(place % 5 == 0 ? "[" : "|").append("abcdea", 0, size).append(place % 5 == 4 ? "]" : "");
            left -= size;
        }
        return table.toString();
    }

    // The same limit where the quotes around and inside the fields make the length.
    private static void writeOfQuotesUpToTheLimit(int d) {
        String six = "\"\"\"\"\"\"";
        String start = "\"QQQQQQ\"S".repeat(4) + "\"QQQQQQ\"E" + "\"QQQQQQ\"S";
        int besideLetters = Dialect.text(d, start + "E").length();
        for (int length = LIMIT - 1; length <= LIMIT + 1; length++) {
            String letters = "abcdea".substring(0, length - besideLetters);
            String table = "[" + six + "|" + six + "|" + six + "|" + six + "|" + six + "][" + six + "|" + letters + "]";
            limit(d, table, Dialect.text(d, start + letters + "E"), length);
        }
    }

    // Promises 17 and 18: "BAD_ARG if d is not 0 to 7"
    private static void wrongDialects() {
        for (State state : new State[] {State.EMPTY, State.EMPTY.raw("ab"), new State("[a|]", "cd", "e")}) {
            for (int bad : Kit.outside(0, 7)) {
                state.refuses("written(" + bad + ")", x -> x.written(bad), CsvDialect.BAD_ARG);
                state.refuses("write(" + bad + ")", x -> x.write(bad), CsvDialect.BAD_ARG);
            }
        }
    }

    // Promise 18: "Tested in this order": the dialect before the length
    private static void orderOfTests() {
        State tooLong = new State("[aaaaaa|bbbbbb|cccccc|dddddd|eeeeee]".repeat(3), "cd", "e");
        for (int bad : Kit.outside(0, 7)) {
            tooLong.refuses("written(" + bad + ")", x -> x.written(bad), CsvDialect.BAD_ARG);
            tooLong.refuses("write(" + bad + ")", x -> x.write(bad), CsvDialect.BAD_ARG);
        }
        for (int d = 0; d < Dialect.COUNT; d++) {
            int dialect = d;
            tooLong.refuses("write(" + d + ")", x -> x.write(dialect), CsvDialect.FULL);
        }
        // A raw text that is full is no reason to refuse, and is kept whole by a refused write.
        State full = new State("[a|b]", "\\".repeat(96), "e");
        full.becomes("write(3)", x -> x.write(3), 4, full.raw("a;b\n"));
        full.refuses("write(8)", x -> x.write(8), CsvDialect.BAD_ARG);
        full.table("").becomes("write(0)", x -> x.write(0), 0, full.table("").raw(""));
    }
}
