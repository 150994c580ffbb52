/** The example in README.md, call by call, with the answers that it names. */
public final class ReadmeTest {
    public static void main(String[] args) {
        CsvDialect x = new CsvDialect();
        Kit.due("draft(0)", x.draft(0), 1);
        Kit.due("addRow()", x.addRow(), 1);
        Kit.due("draft(5)", x.draft(5), 1);
        Kit.due("field()", x.field(), 2);
        Kit.due("write(0)", x.write(0), 7);
        Kit.due("the raw text", Kit.rawOf(x), "a,\",\"\r\n");
        Kit.due("guess()", x.guess(), 0);
        x.clear();
        Kit.due("read(0)", x.read(0), 1);
        Kit.due("at(0, 1, 0)", x.at(0, 1, 0), 5);
        Kit.due("read(2)", x.read(2), CsvDialect.UNREADABLE);
        Kit.due("the table after read(2)", Kit.tableOf(x), "[a|,]");
        Kit.due("sound(2)", x.sound(2), 5);
        Kit.finish();
    }
}
