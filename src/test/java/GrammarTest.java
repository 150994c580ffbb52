import java.util.HashSet;
import java.util.Set;

/** Promises 19 to 22 for every short text: read, even and guess up to 5 characters, sound up to 4. */
public final class GrammarTest {
    // The letters are alike in the grammar, so one of them stands for all.
    private static final String SOME = "a,;\"\r\n\\";

    private static final int READ_UP_TO = 5;
    private static final int SOUND_UP_TO = 4;
    private static final int EXTENSION = 2;

    /** For each dialect, the texts that begin a readable one of at most SOUND_UP_TO + EXTENSION characters. */
    private static final Set<String>[] BEGINNINGS = sets();

    public static void main(String[] args) {
        collect("");
        check("");
        Kit.finish();
    }

    @SuppressWarnings({"unchecked", "rawtypes"})
    private static Set<String>[] sets() {
        Set[] sets = new Set[Model.DIALECTS];
        for (int d = 0; d < sets.length; d++) {
            sets[d] = new HashSet<String>();
        }
        return sets;
    }

    private static void collect(String text) {
        for (int d = 0; d < Model.DIALECTS; d++) {
            if (Model.reads(text, d)) {
                for (int k = 0; k <= text.length(); k++) {
                    BEGINNINGS[d].add(text.substring(0, k));
                }
            }
        }
        if (text.length() < SOUND_UP_TO + EXTENSION) {
            for (char c : SOME.toCharArray()) {
                collect(text + c);
            }
        }
    }

    private static void check(String text) {
        CsvDialect x = Kit.withRaw(text);
        Model m = new Model();
        for (char c : text.toCharArray()) {
            m.raw(Kit.ALPHABET.indexOf(c));
        }
        Kit.due("even() of " + Kit.shown(text), x.even(), m.even());
        Kit.due("guess() of " + Kit.shown(text), x.guess(), m.guess());
        for (int d = 0; d < Model.DIALECTS; d++) {
            String call = "(" + d + ") of " + Kit.shown(text);
            if (text.length() <= SOUND_UP_TO) {
                Kit.due("sound" + call, x.sound(d), longestBeginning(text, d));
            }
            Kit.due("read" + call, x.read(d), m.read(d));
            Kit.due("the table after read" + call, Kit.tableOf(x), m.tableText());
        }
        if (text.length() < READ_UP_TO) {
            for (char c : SOME.toCharArray()) {
                check(text + c);
            }
        }
    }

    private static int longestBeginning(String text, int d) {
        int k = text.length();
        while (!BEGINNINGS[d].contains(text.substring(0, k))) {
            k--;
        }
        return k;
    }
}
