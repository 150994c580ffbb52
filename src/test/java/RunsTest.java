/** All promises in long mixed runs, each call compared with the model. The runs are the same every time. */
public final class RunsTest {
    private static final int RUNS = 3000;
    // With the look at the whole state behind them (at most 314 calls) a run keeps below 512 calls.
    private static final int CALLS = 190;

    private static final String[] PIECES = {
        "a", "b", "e", ",", ";", "\"", "\r\n", "\n", "\r\n", "\n", "\"\"", "\\\"", "\\", "\r", "a,b", "c;d", "\"a\"", "\",\"", "\";\"",
    };

    private static long seed;

    private static CsvDialect x;
    private static Model m;
    private static int calls;

    public static void main(String[] args) {
        for (int run = 0; run < RUNS; run++) {
            seed = run;
            x = new CsvDialect();
            m = new Model();
            calls = 0;
            int flavour = below(4);
            while (calls < CALLS) {
                act(run, flavour);
            }
            Kit.due("run " + run + ": the table", Kit.tableOf(x), m.tableText());
            Kit.due("run " + run + ": the raw text", Kit.rawOf(x), m.rawText());
        }
        Kit.finish();
    }

    private static int below(int bound) {
        seed = seed * 6364136223846793005L + 1442695040888963407L;
        return (int) ((seed >>> 33) % bound);
    }

    private static void due(int run, String call, int got, int want) {
        calls++;
        Kit.due("run " + run + ", call " + calls + ": " + call, got, want);
    }

    private static void act(int run, int flavour) {
        int kind = below(10);
        if (kind < 4) {
            if (flavour == 0) {
                addPiece(run);
            } else {
                changeTable(run, flavour);
            }
        } else if (kind < 6) {
            changeRaw(run);
        } else if (kind < 7) {
            look(run);
        } else {
            convert(run, flavour);
        }
    }

    private static void addPiece(int run) {
        String piece = PIECES[below(PIECES.length)];
        for (int i = 0; i < piece.length(); i++) {
            int c = Kit.ALPHABET.indexOf(piece.charAt(i));
            due(run, "raw(" + c + ")", x.raw(c), m.raw(c));
        }
    }

    private static void changeTable(int run, int flavour) {
        int r = below(8) - 1;
        int f = below(7) - 1;
        switch (below(12)) {
            case 0:
                due(run, "put(" + r + ", " + f + ")", x.put(r, f), m.put(r, f));
                break;
            case 1:
                due(run, "addRow()", x.addRow(), m.addRow());
                break;
            case 2:
            case 3:
                due(run, "field()", x.field(), m.field());
                break;
            case 4:
                if (below(6) == 0) {
                    x.scrap();
                    m.scrap();
                    calls++;
                }
                break;
            case 5:
                if (below(12) == 0) {
                    x.clear();
                    m.clear();
                    calls++;
                }
                break;
            default:
                int count = 1 + below(flavour == 1 ? 2 : 5);
                for (int n = 0; n < count; n++) {
                    int c = below(20) == 0 ? below(14) - 2 : below(flavour == 2 ? 5 : 10);
                    due(run, "draft(" + c + ")", x.draft(c), m.draft(c));
                }
                break;
        }
    }

    private static void changeRaw(int run) {
        int kind = below(12);
        if (kind < 3) {
            due(run, "unraw()", x.unraw(), m.unraw());
        } else if (kind < 6) {
            int c = below(14) - 1;
            due(run, "raw(" + c + ")", x.raw(c), m.raw(c));
        } else if (kind < 11) {
            addPiece(run);
        } else {
            x.rawClear();
            m.rawClear();
            calls++;
        }
    }

    private static void look(int run) {
        int r = below(8) - 1;
        int f = below(7) - 1;
        int i = below(8) - 1;
        int k = below(99) - 1;
        due(run, "records()", x.records(), m.records());
        due(run, "fields(" + r + ")", x.fields(r), m.fields(r));
        due(run, "size(" + r + ", " + f + ")", x.size(r, f), m.size(r, f));
        due(run, "at(" + r + ", " + f + ", " + i + ")", x.at(r, f, i), m.at(r, f, i));
        due(run, "rawLength()", x.rawLength(), m.rawLength());
        due(run, "rawAt(" + k + ")", x.rawAt(k), m.rawAt(k));
    }

    private static void convert(int run, int flavour) {
        int d = below(24) == 0 ? below(12) - 2 : below(8);
        switch (below(flavour == 0 ? 4 : 6)) {
            case 0:
                due(run, "read(" + d + ")", x.read(d), m.read(d));
                break;
            case 1:
                due(run, "even()", x.even(), m.even());
                break;
            case 2:
                due(run, "guess()", x.guess(), m.guess());
                break;
            case 3:
                if (below(6) == 0) {
                    due(run, "sound(" + d + ")", x.sound(d), m.sound(d));
                }
                break;
            case 4:
                due(run, "write(" + d + ")", x.write(d), m.write(d));
                break;
            default:
                due(run, "written(" + d + ")", x.written(d), m.written(d));
                break;
        }
    }
}
