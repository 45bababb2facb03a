/** Compares every answer that a RelexBuffer can give with the model's. */
final class Same {
    private static final int[] FAR = {
        Integer.MIN_VALUE, Integer.MIN_VALUE + 1, -65536, -64, -8, -3, -2, -1,
        65, 66, 127, 128, 255, 256, 65536, 1 << 28, 1 << 29, 1 << 30, Integer.MAX_VALUE - 1, Integer.MAX_VALUE
    };

    private Same() {
    }

    static void everywhere(Check check, String when, RelexBuffer x, Model m) {
        tables(check, when, x, m);
        text(check, when, x, m);
        far(check, when, x, m);
    }

    static void tables(Check check, String when, RelexBuffer x, Model m) {
        for (int state = -1; state <= 17; state++) {
            for (int sym = -1; sym <= 9; sym++) {
                check.due(when + ": edge(" + state + ", " + sym + ")", x.edge(state, sym), m.edge(state, sym));
            }
            check.due(when + ": acceptKind(" + state + ")", x.acceptKind(state), m.acceptKind(state));
            check.due(when + ": acceptMode(" + state + ")", x.acceptMode(state), m.acceptMode(state));
        }
        for (int mode = -1; mode <= 5; mode++) {
            check.due(when + ": start(" + mode + ")", x.start(mode), m.start(mode));
        }
    }

    static void text(Check check, String when, RelexBuffer x, Model m) {
        check.due(when + ": edits()", x.edits(), m.edits());
        check.due(when + ": length()", x.length(), m.length());
        check.due(when + ": tokenCount()", x.tokenCount(), m.tokenCount());
        check.due(when + ": endMode()", x.endMode(), m.endMode());
        for (int pos = -1; pos <= m.length() + 2; pos++) {
            check.due(when + ": symbolAt(" + pos + ")", x.symbolAt(pos), m.symbolAt(pos));
            check.due(when + ": tokenAt(" + pos + ")", x.tokenAt(pos), m.tokenAt(pos));
            check.due(when + ": stableCount(" + pos + ")", x.stableCount(pos), m.stableCount(pos));
        }
        for (int i = -1; i <= m.tokenCount() + 1; i++) {
            for (int field = -1; field <= 6; field++) {
                check.due(when + ": token(" + i + ", " + field + ")", x.token(i, field), m.token(i, field));
            }
        }
    }

    /** Arguments far outside every range, alone and beside a good one. */
    private static void far(Check check, String when, RelexBuffer x, Model m) {
        for (int v : FAR) {
            check.due(when + ": edge(" + v + ", 0)", x.edge(v, 0), m.edge(v, 0));
            check.due(when + ": edge(0, " + v + ")", x.edge(0, v), m.edge(0, v));
            check.due(when + ": acceptKind(" + v + ")", x.acceptKind(v), m.acceptKind(v));
            check.due(when + ": acceptMode(" + v + ")", x.acceptMode(v), m.acceptMode(v));
            check.due(when + ": start(" + v + ")", x.start(v), m.start(v));
            check.due(when + ": symbolAt(" + v + ")", x.symbolAt(v), m.symbolAt(v));
            check.due(when + ": token(" + v + ", 0)", x.token(v, 0), m.token(v, 0));
            check.due(when + ": token(0, " + v + ")", x.token(0, v), m.token(0, v));
            check.due(when + ": tokenAt(" + v + ")", x.tokenAt(v), m.tokenAt(v));
            check.due(when + ": stableCount(" + v + ")", x.stableCount(v), m.stableCount(v));
        }
    }
}
