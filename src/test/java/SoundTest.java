/** Promise 20: sound. */
public final class SoundTest {
    public static void main(String[] args) {
        for (int d = 0; d < 8; d++) {
            everyDialect(d);
        }
        quotes();
        ends();
        oneAfterTheOther();
        wrongDialects();
        Kit.finish();
    }

    private static void sound(int d, String text, int want) {
        CsvDialect x = Kit.withRaw(text);
        Kit.row(x, "cd", "e");
        Kit.due("sound(" + d + ") of " + Kit.shown(text), x.sound(d), want);
        Kit.due("the raw text after sound", Kit.rawOf(x), text);
        Kit.due("the table after sound", Kit.tableOf(x), "[cd|e]");
    }

    private static void everyDialect(int d) {
        sound(d, "", 0);
        sound(d, "a", 1);
        sound(d, "\\", 0);
        sound(d, "ab\\\"", 2);
        sound(d, "ab\"c\"", 2);
        sound(d, "\"", 1);
        sound(d, "\"a", 2);
        sound(d, "\"a\"b", 3);
        sound(d, "\"a\"\\", 3);
        sound(d, ",,,,,,,,", 8);
        sound(d, "abcdeabcde", 10);
        sound(d, "\"\r\n\n\r,;", 7);
        sound(d, "a".repeat(96), 96);
        sound(d, "\"" + "\n".repeat(95), 96);
        sound(d, "a".repeat(95) + "\"", 95);
        sound(d, ",;".repeat(48), 96);
    }

    private static void quotes() {
        sound(0, "\"\"\"", 3);
        sound(0, "\"\"\"a", 4);
        sound(0, "\"\\\"", 1);
        sound(4, "\"\"\"", 2);
        sound(4, "\"\\", 2);
        sound(4, "\"\\\"", 3);
        sound(4, "\"\\a", 2);
        sound(4, "\"\\\\", 2);
        sound(4, "\"\\\"\\\"\"", 6);
        sound(2, "\"\",\"\"a", 5);
        sound(2, "\"\";", 2);
        sound(3, "\"\";", 3);
        sound(3, "\"\",", 2);
    }

    private static void ends() {
        sound(0, "\r", 1);
        sound(0, "\r\n", 2);
        sound(0, "\r\r", 1);
        sound(0, "a\ra", 2);
        sound(0, "a\n", 1);
        sound(0, "\"\"\r\n\n", 4);
        sound(2, "\r", 0);
        sound(2, "\n\n\n\n\n\n\n\n", 8);
        sound(2, "a\r\n", 1);
        sound(7, "a;\n\r", 3);
        sound(5, "a;\r\n\r", 5);
    }

    private static void oneAfterTheOther() {
        CsvDialect x = Kit.withRaw("a,b\r\n\"\\");
        Kit.due("sound(4)", x.sound(4), 7);
        Kit.due("sound(2) after sound(4)", x.sound(2), 3);
        Kit.due("sound(0) after sound(2)", x.sound(0), 6);
        Kit.due("sound(8)", x.sound(8), CsvDialect.BAD_ARG);
        x.raw(0);
        Kit.due("sound(4) with one character more", x.sound(4), 7);
        x.rawClear();
        Kit.due("sound(0) of nothing", x.sound(0), 0);
    }

    private static void wrongDialects() {
        int[] noDialects = {-1, 8, 9, 16, -8, Integer.MAX_VALUE, Integer.MIN_VALUE};
        for (int bad : noDialects) {
            sound(bad, "a", CsvDialect.BAD_ARG);
            sound(bad, "", CsvDialect.BAD_ARG);
        }
    }
}
