/** Promise 20: the boundary cases of sound, in every dialect. */
public final class SoundBoundaryTest {
    private static final State OTHER = new State("[cd|e]", "", "ab");

    public static void main(String[] args) {
        for (int d = 0; d < Dialect.COUNT; d++) {
            soundOfAll(d);
            soundOfNothing(d);
            soundOfSome(d);
            soundOfBeginnings(d);
            soundOfAnyLength(d);
        }
        wrongDialects();
        Kit.finish();
    }

    /** Of a text in two parts the first one is sound, and not a character more. */
    private static void sound(int d, String sound, String rest) {
        State state = OTHER.raw(Dialect.text(d, sound) + Dialect.text(d, rest));
        state.answers("sound(" + d + ")", x -> x.sound(d), Dialect.text(d, sound).length());
    }

    // Promise 20: "The greatest k such that the first k characters .."
    private static void soundOfAll(int d) {
        for (String told : new String[] {"", "a", "S", "E", "EE", "aE", "aSbE", "\"\"", "\"Q\"E", "SSEa", "O"}) {
            sound(d, told, "");
        }
    }

    private static void soundOfNothing(int d) {
        sound(d, "", "\\");
        sound(d, "", "\\a");
        sound(d, "", "\\\"a\"E");
        if (Dialect.lineFeedOnly(d)) {
            sound(d, "", "\r");
            sound(d, "", "\r\n");
        } else {
            sound(d, "", "\n");
            sound(d, "", "\n\r\n");
        }
    }

    // What follows the first wrong character does not count, however well it would read on its own.
    private static void soundOfSome(int d) {
        for (String plain : new String[] {"a", "aSb", "aEb", "O"}) {
            sound(d, plain, "\"");
            sound(d, plain, "\"SbE");
            sound(d, plain, "\\");
            sound(d, plain, "\\SbE");
        }
        for (String closed : new String[] {"\"\"", "\"a\"", "aS\"Q\"", "aE\"E\""}) {
            sound(d, closed, "a");
            sound(d, closed, "aSb");
            sound(d, closed, "O");
            sound(d, closed, "\\");
            sound(d, closed, "\\\"");
        }
        for (String start : new String[] {"S", "E", "aS", "aE", "\"\"S", "\"\"E"}) {
            sound(d, start, "\\");
            sound(d, start, "\\a");
        }
        sound(d, "a".repeat(95), "\\");
        sound(d, "\"" + "a".repeat(93) + "\"", "b");
    }

    // ".. are the beginning of some text that reads": also where they do not read themselves
    private static void soundOfBeginnings(int d) {
        for (String begun : new String[] {"\"", "\"a", "\"aS", "\"aE", "\"Q", "aS\"", "aE\"b", "\"\"S\""}) {
            sound(d, begun, "");
            OTHER.raw(Dialect.text(d, begun)).refuses("read(" + d + ")", x -> x.read(d), CsvDialect.UNREADABLE);
        }
        for (String before : new String[] {"", "a", "aS", "\"a\"", "aE"}) {
            if (Dialect.lineFeedOnly(d)) {
                sound(d, before, "\r");
                sound(d, before + "\n", "\r");
            } else {
                sound(d, before + "\r", "");
                sound(d, before + "\r", "\r");
                sound(d, before + "\r", "a");
                sound(d, before + "\r", "S");
                sound(d, before + "\r", "\"");
                sound(d, before, "\n");
                sound(d, before + "\r\n", "\n");
            }
        }
        if (Dialect.escape(d)) {
            sound(d, "\"\\", "");
            sound(d, "\"a\\", "b\"");
            sound(d, "\"\\", "\\\"");
            sound(d, "\"\\", "E");
            sound(d, "\"\"", "\"");
            sound(d, "\"a\"", "\"b\"");
        } else {
            sound(d, "\"", "\\");
            sound(d, "\"a", "\\\"\"");
            sound(d, "\"\"\"", "");
            sound(d, "\"a\"\"", "");
            sound(d, "\"a\"\"b", "");
            sound(d, "\"\"\"\"", "a");
        }
    }

    // "(of any length)": the text that reads may be longer than the raw text can be, and larger than the table
    private static void soundOfAnyLength(int d) {
        sound(d, "\"" + "a".repeat(95), "");
        sound(d, "a".repeat(95) + "S", "");
        sound(d, "S".repeat(96), "");
        sound(d, "\n".repeat(Dialect.lineFeedOnly(d) ? 96 : 0), "");
        sound(d, "E".repeat(48), "");
        sound(d, Dialect.lineFeedOnly(d) ? "" : "a".repeat(95) + "\r", "");
        sound(d, Dialect.escape(d) ? "\"" + "a".repeat(94) + "\\" : "", "");
        sound(d, "EEEEEEE", "\\");
        sound(d, "SSSSSS", "\\");
        sound(d, "abcdeab", "\\");
        sound(d, "\"abcdeab\"", "a");
    }

    // Promise 20: "BAD_ARG if d is not 0 to 7"
    private static void wrongDialects() {
        for (String text : new String[] {"", "a", "\\", "a,b\r\n", "\n".repeat(96)}) {
            for (int bad : Kit.outside(0, 7)) {
                OTHER.raw(text).refuses("sound(" + bad + ")", x -> x.sound(bad), CsvDialect.BAD_ARG);
            }
        }
    }
}
