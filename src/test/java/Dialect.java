/** Texts that are told once for all dialects, with capitals for what differs between them. */
final class Dialect {
    static final int COUNT = 8;

    private Dialect() {
    }

    static boolean semicolon(int d) {
        return d % 2 == 1;
    }

    static boolean lineFeedOnly(int d) {
        return d / 2 % 2 == 1;
    }

    static boolean escape(int d) {
        return d / 4 % 2 == 1;
    }

    static String end(int d) {
        return lineFeedOnly(d) ? "\n" : "\r\n";
    }

    /**
     * S is the separator, O the other one; E is the end of a record, X the other one; Q is a quote inside quotes, W is
     * that of the other dialects.
     */
    static String text(int d, String told) {
        return told
            .replace("S", semicolon(d) ? ";" : ",").replace("O", semicolon(d) ? "," : ";")
            .replace("E", end(d)).replace("X", end(d ^ 2))
            .replace("Q", escape(d) ? "\\\"" : "\"\"").replace("W", escape(d) ? "\"\"" : "\\\"");
    }
}
