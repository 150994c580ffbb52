/**
 * "No call ever throws. A refused call answers the code named and changes nothing.": every call, with numbers from one
 * end of int to the other, on objects in the outermost states, compared with the model.
 */
public final class EveryCallTest {
    private static final int[] NUMBERS = {
        Integer.MIN_VALUE, Integer.MIN_VALUE + 1, Integer.MIN_VALUE + 7, -858993459, -715827882, -(1 << 30), -65536, -256,
        -96, -11, -6, -5, -2, -1, 0, 1, 2, 3, 4, 5, 6, 7, 8, 9, 10, 11, 12, 29, 30, 31, 32, 94, 95, 96, 97, 180, 256, 257,
        456, 65536, 65537, 143165577, 715827883, 858993459, 858993460, 1 << 30, Integer.MAX_VALUE - 1, Integer.MAX_VALUE,
    };
    private static final int[] FEWER = {
        Integer.MIN_VALUE, -858993459, -6, -1, 0, 1, 2, 4, 5, 6, 715827883, 858993459, 1 << 30, Integer.MAX_VALUE,
    };

    private static final String LARGE = "[abcdea|,;\"\r\n,|bbbbbb|\"\"\"\"\"\"|eeeeee]".repeat(6);
    private static final String WIDE = "[a||b|,|\"]".repeat(6);
    private static final State[] STATES = {
        State.EMPTY,
        new State("", "", "abcdea"),
        new State("[]", "\"", ""),
        new State("[a|b][c]", "a,b\r\nc\r\n", "d"),
        new State("[a|b][c]", "a,b\nc,d", "abcdea"),
        new State("[][][][][][]", "\n\n\n\n\n\n\n", "d"),
        new State("[a][b|c|d|e|a]", ",,,,,", "abcdea"),
        new State(LARGE, "abcdeab", "abcdea"),
        new State(LARGE, "", ""),
        new State(WIDE, "a".repeat(96), "ab"),
        new State(WIDE, "\"".repeat(96), ""),
        new State("[a]", "\"".repeat(95), "abcdea"),
        new State("[a]", "\\".repeat(96), "abcdea"),
        new State("", ",".repeat(96), "abcde"),
        new State("", ";".repeat(95), ""),
        new State("", "\n".repeat(96), ""),
        new State("", "\r\n".repeat(48), "ab"),
        new State("", "\r".repeat(96), "ab"),
        new State("[a]", "\"" + "\\\"".repeat(47) + "\\", "ab"),
        new State("[abcdea|abcdea|abcdea|abcdea|abc]".repeat(3), "a", "abcdea"),
    };

    private static final String[] WITHOUT = {
        "scrap", "addRow", "field", "clear", "records", "unraw", "rawLength", "rawClear", "even", "guess",
    };
    private static final String[] WITH_ONE = {"draft", "fields", "raw", "rawAt", "written", "write", "read", "sound"};

    public static void main(String[] args) {
        for (State state : STATES) {
            for (String name : WITHOUT) {
                check(state, name, 0, 0, 0);
            }
            for (int a : NUMBERS) {
                for (String name : WITH_ONE) {
                    check(state, name, a, 0, 0);
                }
            }
            for (int r : NUMBERS) {
                for (int f : NUMBERS) {
                    check(state, "put", r, f, 0);
                    check(state, "size", r, f, 0);
                }
            }
            for (int r : FEWER) {
                for (int f : FEWER) {
                    for (int i : FEWER) {
                        check(state, "at", r, f, i);
                    }
                }
            }
        }
        Kit.finish();
    }

    private static void check(State state, String name, int a, int b, int c) {
        CsvDialect x = state.make();
        Model m = state.model();
        String call = name + "(" + a + ", " + b + ", " + c + ") on " + Kit.shown(state.toString());
        int due = answer(m, name, a, b, c);
        try {
            Kit.due(call, answer(x, name, a, b, c), due);
            Kit.due("the state after " + call, State.of(x), m.state().toString());
        } catch (RuntimeException | Error thrown) {
            Kit.due(call, thrown.toString(), Integer.toString(due));
        }
    }

    private static int answer(CsvDialect x, String name, int a, int b, int c) {
        switch (name) {
            case "draft": return x.draft(a);
            case "scrap": x.scrap(); return 0;
            case "addRow": return x.addRow();
            case "field": return x.field();
            case "put": return x.put(a, b);
            case "clear": x.clear(); return 0;
            case "records": return x.records();
            case "fields": return x.fields(a);
            case "size": return x.size(a, b);
            case "at": return x.at(a, b, c);
            case "raw": return x.raw(a);
            case "unraw": return x.unraw();
            case "rawLength": return x.rawLength();
            case "rawAt": return x.rawAt(a);
            case "rawClear": x.rawClear(); return 0;
            case "written": return x.written(a);
            case "write": return x.write(a);
            case "read": return x.read(a);
            case "sound": return x.sound(a);
            case "even": return x.even();
            case "guess": return x.guess();
            default: throw new IllegalArgumentException(name);
        }
    }

    private static int answer(Model m, String name, int a, int b, int c) {
        switch (name) {
            case "draft": return m.draft(a);
            case "scrap": m.scrap(); return 0;
            case "addRow": return m.addRow();
            case "field": return m.field();
            case "put": return m.put(a, b);
            case "clear": m.clear(); return 0;
            case "records": return m.records();
            case "fields": return m.fields(a);
            case "size": return m.size(a, b);
            case "at": return m.at(a, b, c);
            case "raw": return m.raw(a);
            case "unraw": return m.unraw();
            case "rawLength": return m.rawLength();
            case "rawAt": return m.rawAt(a);
            case "rawClear": m.rawClear(); return 0;
            case "written": return m.written(a);
            case "write": return m.write(a);
            case "read": return m.read(a);
            case "sound": return m.sound(a);
            case "even": return m.even();
            case "guess": return m.guess();
            default: throw new IllegalArgumentException(name);
        }
    }
}
