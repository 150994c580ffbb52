/** Promises 21 and 22: the boundary cases of even and guess, in every dialect. */
public final class EvenGuessBoundaryTest {
    private static final State OTHER = new State("[cd|e]", "", "ab");

    public static void main(String[] args) {
        for (int d = 0; d < Dialect.COUNT; d++) {
            evenIfItReads(d);
            evenFields(d);
            evenOfAnyNumbers(d);
            onlyDialect(d);
        }
        emptyText();
        noDialect();
        mostFields();
        leastDialect();
        Kit.finish();
    }

    /** Whether dialect d is in even(), and that guess() answers one of even(). */
    private static void even(int d, String told, boolean due) {
        State state = OTHER.raw(Dialect.text(d, told));
        state.answers("dialect " + d + " in even()", x -> x.even() >> d & 1, due ? 1 : 0);
        if (due) {
            state.answers("guess() in even()", x -> x.even() >> x.guess() & 1, 1);
        }
    }

    // Promise 21: "the dialects .. in which the raw text reads"
    private static void evenIfItReads(int d) {
        for (String told : new String[] {"a", "S", "E", "\"\"", "\"Q\"", "aSb", "aSbE"}) {
            even(d, told, true);
        }
        for (String told : new String[] {"\\", "\"", "a\"", "\"a\"b", "\"W\"", "X", "aX", "\r", "a\\Sb", "\"a"}) {
            even(d, told, false);
        }
    }

    // ".. as a table whose records all have the same number of fields"
    private static void evenFields(int d) {
        for (String end : new String[] {"", "E"}) {
            even(d, "aEb" + end, true);
            even(d, "aSbEcSd" + end, true);
            even(d, "aSbESESd" + end, true);
            even(d, "SSESSESS" + end, true);
            even(d, "\"S\"SaEbSc" + end, true);
            even(d, "aSbEc" + end, false);
            even(d, "aEbSc" + end, false);
            even(d, "SSES" + end, false);
            even(d, "SESS" + end, false);
            even(d, "aSbEcSdEe" + end, false);
            even(d, "aSbEcEdSe" + end, false);
            even(d, "aEbScEdSe" + end, false);
            even(d, "SESSES" + end, false);
            even(d, "\"S\"Ea" + end, true);
            even(d, "\"S\"EaSb" + end, false);
        }
        // The end behind the last record starts no record, the second one does, and that one has one field.
        even(d, "aSbE", true);
        even(d, "aSbEE", false);
        even(d, "aEE", true);
        even(d, "EaSb", false);
        even(d, "EEE", true);
    }

    // "(with any numbers and lengths)": on both sides of each limit of the table
    private static void evenOfAnyNumbers(int d) {
        for (int n : new int[] {5, 6, 7, 24}) {
            even(d, "aSE".repeat(n), true);
            even(d, "aSE".repeat(n - 1) + "a", false);
            even(d, "S".repeat(n) + "E" + "S".repeat(n), true);
            even(d, "S".repeat(n) + "E" + "S".repeat(n - 1), false);
            even(d, "a".repeat(n) + "Ea", true);
            even(d, "\"" + "a".repeat(n) + "\"Ea", true);
            even(d, "a".repeat(n) + "EaSb", false);
        }
        even(d, "S".repeat(96), true);
        even(d, "a".repeat(96), true);
        even(d, "E".repeat(48), true);
        even(d, "S" + "E".repeat(47), false);
    }

    // The sum has exactly the dialect that reads, from the first one to the last; guess answers that one.
    private static void onlyDialect(int d) {
        State state = OTHER.raw(Dialect.text(d, "\"Q\"S\"Q\"E"));
        state.answers("even()", x -> x.even(), 1 << d);
        state.answers("guess()", x -> x.guess(), d);
    }

    private static void both(String text, int even, int guess) {
        State state = OTHER.raw(text);
        state.answers("even()", x -> x.even(), even);
        state.answers("guess()", x -> x.guess(), guess);
    }

    // Promises 21 and 22: the empty raw text reads, evenly, in all dialects; guess: "NONE if .. the raw text is empty"
    private static void emptyText() {
        both("", 255, CsvDialect.NONE);
        both("a", 255, 0);
        State one = OTHER.raw("a");
        one.becomes("guess() behind unraw()", x -> x.unraw() + x.guess(), CsvDialect.NONE, OTHER);
        one.becomes("even() behind rawClear()", x -> {
            x.rawClear();
            return x.even();
        }, 255, OTHER);
        State.EMPTY.refuses("guess()", x -> x.guess(), CsvDialect.NONE);
        State.EMPTY.answers("even()", x -> x.even(), 255);
    }

    // Promise 22: "NONE if even() is 0": as nothing reads, or as all that reads is uneven
    private static void noDialect() {
        String[] unread = {"\\", "\"", "a\"", "\r", "\n\r", "a\nb\r\n", "\"\\\"\"\"\"", "a".repeat(95) + "\\"};
        for (String text : unread) {
            both(text, 0, CsvDialect.NONE);
        }
        both("a,b;c\nd", 0, CsvDialect.NONE);
        both("a,b;c\nd,e;a", 4 + 8 + 64 + 128, 2);
        both("a,b\r\nc;d\r\n", 0, CsvDialect.NONE);
        both("a,b\r\nc,d\r\n", 1 + 2 + 16 + 32, 0);
    }

    // Promise 22: "one in which the records have the most fields"
    private static void mostFields() {
        both("a,b;c;d", 255, 1);
        both("a,b,c;d", 255, 0);
        both(";", 255, 1);
        both(";\n", 4 + 8 + 64 + 128, 3);
        both(",;;\r\n;;,", 1 + 2 + 16 + 32, 1);
        // More fields where it is uneven do not count.
        both("a,b,c\nd\n", 8 + 128, 3);
        both("a;b;c\nd\n", 4 + 64, 2);
        both("a,b,c;d\ne;a", 8 + 128, 3);
        // Nor do those inside quotes.
        both("\",,,\"\n", 4 + 8 + 64 + 128, 2);
        both("\";;;\"\n", 4 + 8 + 64 + 128, 2);
        // Numbers of fields that no table could have.
        both(",".repeat(47) + ";".repeat(48), 255, 1);
        both(",".repeat(48) + ";".repeat(48), 255, 0);
        both(",".repeat(48) + ";".repeat(47), 255, 0);
        both(",,,,;;;;;", 255, 1);
        both(",,,,,;;;;;;", 255, 1);
    }

    // Promise 22: "of these the least"
    private static void leastDialect() {
        both("a,b;c", 255, 0);
        both("a,b;c\n", 4 + 8 + 64 + 128, 2);
        both("\"\\\"\"", 16 + 32 + 64 + 128, 4);
        both("\"\\\"\"\n", 64 + 128, 6);
        both("\"\"\"\"", 1 + 2 + 4 + 8, 0);
        both("\"\"\"\"\n", 4 + 8, 2);
        both("a;b", 255, 1);
        both("a;b\n", 4 + 8 + 64 + 128, 3);
        both("\"\\\"\";b", 32 + 128, 5);
        both("\"\\\"\";b\n", 128, 7);
        both("\"\"\"\";b", 2 + 8, 1);
        both("\"\"\"\";b\n", 8, 3);
    }
}
