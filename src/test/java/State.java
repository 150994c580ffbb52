import java.util.ArrayList;
import java.util.List;
import java.util.function.Consumer;
import java.util.function.ToIntFunction;

/**
 * All that an object holds, as texts: the table as Kit.tableOf shows it, the raw text and the draft. A check makes a
 * new object in this state, makes the call it is about, and looks at all three again.
 */
final class State {
    static final State EMPTY = new State("", "", "");

    // Making an object and looking at it has to keep within the calls that the document allows for one object.
    private static final int MOST_CALLS = 512;

    private final String table;
    private final String raw;
    private final String draft;

    State(String table, String raw, String draft) {
        this.table = table;
        this.raw = raw;
        this.draft = draft;
        if (2 * (table.length() + raw.length() + draft.length()) + 12 > MOST_CALLS) {
            throw new IllegalArgumentException("a state too large to be looked at: " + this);
        }
    }

    State table(String other) {
        return new State(other, raw, draft);
    }

    State raw(String other) {
        return new State(table, other, draft);
    }

    State draft(String other) {
        return new State(table, raw, other);
    }

    /** A new object in this state. */
    CsvDialect make() {
        CsvDialect x = new CsvDialect();
        for (List<String> record : records()) {
            for (int f = 0; f < record.size(); f++) {
                putInDraft(x, record.get(f));
                if (f == 0) {
                    x.addRow();
                } else {
                    x.field();
                }
            }
        }
        Kit.raw(x, raw);
        putInDraft(x, draft);
        return x;
    }

    /** A new model in this state. */
    Model model() {
        return new Model(records(), raw, draft);
    }

    private List<List<String>> records() {
        List<List<String>> records = new ArrayList<>();
        if (!table.isEmpty()) {
            for (String record : table.substring(1, table.length() - 1).split("]\\[", -1)) {
                records.add(new ArrayList<>(List.of(record.split("\\|", -1))));
            }
        }
        return records;
    }

    private static void putInDraft(CsvDialect x, String text) {
        for (char c : text.toCharArray()) {
            x.draft(Kit.ALPHABET.indexOf(c));
        }
    }

    /** The draft can be seen only as a field, so the table is given up for it, after it has been looked at. */
    static String of(CsvDialect x) {
        String table = Kit.tableOf(x);
        String raw = Kit.rawOf(x);
        x.clear();
        x.addRow();
        String draft = Kit.tableOf(x);
        return new State(table, raw, draft.substring(1, draft.length() - 1)).toString();
    }

    /** The call answers this and leaves the object in the state after. */
    void becomes(String call, ToIntFunction<CsvDialect> made, int answer, State after) {
        CsvDialect x = make();
        Kit.due(call + " on " + Kit.shown(toString()), made.applyAsInt(x), answer);
        Kit.due("the state after " + call + " on " + Kit.shown(toString()), of(x), after.toString());
    }

    /** The call, which answers nothing, leaves the object in the state after. */
    void becomes(String call, Consumer<CsvDialect> made, State after) {
        CsvDialect x = make();
        made.accept(x);
        Kit.due("the state after " + call + " on " + Kit.shown(toString()), of(x), after.toString());
    }

    /** The call answers this and changes nothing, so that it answers the same when it is made again. */
    void answers(String call, ToIntFunction<CsvDialect> made, int answer) {
        CsvDialect x = make();
        Kit.due(call + " on " + Kit.shown(toString()), made.applyAsInt(x), answer);
        Kit.due(call + " again on " + Kit.shown(toString()), made.applyAsInt(x), answer);
        Kit.due("the state after " + call + " on " + Kit.shown(toString()), of(x), toString());
    }

    /** The call is refused with this code and changes nothing. */
    void refuses(String call, ToIntFunction<CsvDialect> made, int code) {
        answers(call, made, code);
    }

    @Override
    public String toString() {
        return "table " + table + " raw " + raw + " draft " + draft;
    }
}
