import java.util.ArrayList;
import java.util.List;
import java.util.regex.Matcher;
import java.util.regex.Pattern;

/** The document once more, with lists and regular expressions, to be compared with the class. */
final class Model {
    static final int DIALECTS = 8;

    private static final Pattern[] TEXTS = new Pattern[DIALECTS];
    private static final Pattern[] FIELDS = new Pattern[DIALECTS];

    static {
        for (int d = 0; d < DIALECTS; d++) {
            String quoted = "\"(?:[^\"\\\\]|" + (escapes(d) ? "\\\\\"" : "\"\"") + ")*\"";
            String field = "(?:" + quoted + "|[abcde" + (separator(d).equals(",") ? ";" : ",") + "]*)";
            String record = field + "(?:" + separator(d) + field + ")*";
            FIELDS[d] = Pattern.compile(field);
            // An empty record without an end adds nothing to the text, so the last record may always lack it.
            TEXTS[d] = Pattern.compile("(?:" + record + end(d) + ")*" + record);
        }
    }

    private List<List<String>> table;
    private String raw;
    private String draft;

    Model() {
        this(new ArrayList<>(), "", "");
    }

    Model(List<List<String>> table, String raw, String draft) {
        this.table = table;
        this.raw = raw;
        this.draft = draft;
    }

    private static String separator(int d) {
        return d % 2 == 1 ? ";" : ",";
    }

    private static String end(int d) {
        return d / 2 % 2 == 1 ? "\n" : "\r\n";
    }

    private static boolean escapes(int d) {
        return d >= 4;
    }

    private static boolean isDialect(int d) {
        return 0 <= d && d <= 7;
    }

    static boolean reads(String text, int d) {
        return TEXTS[d].matcher(text).matches();
    }

    /** The table that a text reads as, if it does. */
    static List<List<String>> tableOf(String text, int d) {
        List<List<String>> records = new ArrayList<>();
        Matcher matcher = FIELDS[d].matcher(text);
        int at = 0;
        while (at < text.length()) {
            List<String> record = new ArrayList<>();
            boolean more = true;
            while (more) {
                matcher.region(at, text.length());
                matcher.lookingAt();
                record.add(content(matcher.group(), d));
                at = matcher.end();
                more = text.startsWith(separator(d), at);
                at += more ? 1 : 0;
            }
            at += text.startsWith(end(d), at) ? end(d).length() : 0;
            records.add(record);
        }
        return records;
    }

    private static String content(String field, int d) {
        if (!field.startsWith("\"")) {
            return field;
        }
        return field.substring(1, field.length() - 1).replace(escapes(d) ? "\\\"" : "\"\"", "\"");
    }

    /** A text that begins some readable one becomes readable by at most two characters more. */
    private static boolean begins(String text, int d) {
        if (reads(text, d)) {
            return true;
        }
        for (char a : Kit.ALPHABET.toCharArray()) {
            if (reads(text + a, d)) {
                return true;
            }
            for (char b : Kit.ALPHABET.toCharArray()) {
                if (reads(text + a + b, d)) {
                    return true;
                }
            }
        }
        return false;
    }

    /** The number of fields of each record, 0 if there is no record, -1 if it differs or the text does not read. */
    static int width(String text, int d) {
        if (!reads(text, d)) {
            return -1;
        }
        List<List<String>> records = tableOf(text, d);
        int width = records.isEmpty() ? 0 : records.get(0).size();
        return records.stream().allMatch(record -> record.size() == width) ? width : -1;
    }

    int draft(int c) {
        if (c < 0 || c > 9) {
            return -1;
        }
        if (draft.length() == 6) {
            return -2;
        }
        draft += Kit.ALPHABET.charAt(c);
        return draft.length();
    }

    void scrap() {
        draft = "";
    }

    private String taken() {
        String text = draft;
        draft = "";
        return text;
    }

    int addRow() {
        if (table.size() == 6) {
            return -2;
        }
        List<String> record = new ArrayList<>();
        record.add(taken());
        table.add(record);
        return table.size();
    }

    int field() {
        if (table.isEmpty()) {
            return -4;
        }
        List<String> last = table.get(table.size() - 1);
        if (last.size() == 5) {
            return -2;
        }
        last.add(taken());
        return last.size();
    }

    int put(int r, int f) {
        if (fields(r) <= f || f < 0) {
            return -4;
        }
        table.get(r).set(f, taken());
        return size(r, f);
    }

    void clear() {
        table.clear();
    }

    int records() {
        return table.size();
    }

    int fields(int r) {
        return 0 <= r && r < table.size() ? table.get(r).size() : -4;
    }

    int size(int r, int f) {
        return f < 0 || fields(r) <= f ? -4 : table.get(r).get(f).length();
    }

    int at(int r, int f, int i) {
        return i < 0 || size(r, f) <= i ? -4 : Kit.ALPHABET.indexOf(table.get(r).get(f).charAt(i));
    }

    int raw(int c) {
        if (c < 0 || c > 10) {
            return -1;
        }
        if (raw.length() == 96) {
            return -2;
        }
        raw += Kit.ALPHABET.charAt(c);
        return raw.length();
    }

    int unraw() {
        if (raw.isEmpty()) {
            return -4;
        }
        int c = Kit.ALPHABET.indexOf(raw.charAt(raw.length() - 1));
        raw = raw.substring(0, raw.length() - 1);
        return c;
    }

    int rawLength() {
        return raw.length();
    }

    int rawAt(int i) {
        return 0 <= i && i < raw.length() ? Kit.ALPHABET.indexOf(raw.charAt(i)) : -4;
    }

    void rawClear() {
        raw = "";
    }

    private String writing(int d) {
        StringBuilder text = new StringBuilder();
        for (List<String> record : table) {
            List<String> fields = new ArrayList<>();
            for (String field : record) {
                boolean quoted = field.matches("(?s).*[\"\r\n" + separator(d) + "].*") || record.equals(List.of(""));
                String inside = field.replace("\"", escapes(d) ? "\\\"" : "\"\"");
                fields.add(quoted ? "\"" + inside + "\"" : field);
            }
            text.append(String.join(separator(d), fields)).append(end(d));
        }
        return text.toString();
    }

    int written(int d) {
        return isDialect(d) ? writing(d).length() : -1;
    }

    int write(int d) {
        if (!isDialect(d)) {
            return -1;
        }
        if (writing(d).length() > 96) {
            return -2;
        }
        raw = writing(d);
        return raw.length();
    }

    int read(int d) {
        if (!isDialect(d)) {
            return -1;
        }
        if (!reads(raw, d)) {
            return -5;
        }
        List<List<String>> records = tableOf(raw, d);
        boolean fits = records.size() <= 6;
        for (List<String> record : records) {
            fits &= record.size() <= 5 && record.stream().allMatch(field -> field.length() <= 6);
        }
        if (!fits) {
            return -2;
        }
        table = records;
        return table.size();
    }

    int sound(int d) {
        if (!isDialect(d)) {
            return -1;
        }
        int k = 0;
        while (k < raw.length() && begins(raw.substring(0, k + 1), d)) {
            k++;
        }
        return k;
    }

    int even() {
        int set = 0;
        for (int d = 0; d < DIALECTS; d++) {
            set += width(raw, d) < 0 ? 0 : 1 << d;
        }
        return set;
    }

    int guess() {
        int best = -4;
        for (int d = 0; d < DIALECTS && !raw.isEmpty(); d++) {
            if (width(raw, d) > (best < 0 ? -1 : width(raw, best))) {
                best = d;
            }
        }
        return best;
    }

    State state() {
        return new State(tableText(), raw, draft);
    }

    String rawText() {
        return raw;
    }

    static String shown(List<List<String>> records) {
        StringBuilder text = new StringBuilder();
        for (List<String> record : records) {
            text.append('[').append(String.join("|", record)).append(']');
        }
        return text.toString();
    }

    String tableText() {
        return shown(table);
    }
}
