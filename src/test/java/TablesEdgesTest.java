import java.util.List;

/** Promises 2 to 8: each sentence that names an edge has a test of its own. */
public final class TablesEdgesTest {
    private static final Check CHECK = new Check();
    private static final int OK = RelexBuffer.OK;
    private static final int NONE = RelexBuffer.NONE;
    private static final int STAY = RelexBuffer.STAY;
    private static final int BAD = RelexBuffer.BAD;
    private static final int LOCKED = RelexBuffer.LOCKED;
    /** States, alphabet and modes: the least ones, some between, the greatest ones. */
    private static final List<int[]> SIZES = List.of(new int[] {4, 2, 1}, new int[] {9, 5, 3}, new int[] {16, 8, 4});
    private static final int[] FAR = {
        Integer.MIN_VALUE, Integer.MIN_VALUE + 1, -65536, -257, -256, -16, -9, -3,
        257, 258, 1024, 65536, 65537, 1 << 28, 1 << 30, Integer.MAX_VALUE - 1, Integer.MAX_VALUE
    };

    public static void main(String[] args) {
        CHECK.each(
            TablesEdgesTest::edgesUnderEveryBit,
            TablesEdgesTest::edgesFromNoState,
            TablesEdgesTest::edgesWithWrongMask,
            TablesEdgesTest::edgesToNoState,
            TablesEdgesTest::edgesLocked,
            TablesEdgesTest::edgesSet,
            TablesEdgesTest::edgesLeaveTheRest,
            TablesEdgesTest::acceptOfNoState,
            TablesEdgesTest::acceptOfNoKind,
            TablesEdgesTest::acceptOfNoMode,
            TablesEdgesTest::acceptLocked,
            TablesEdgesTest::acceptSet,
            TablesEdgesTest::acceptLeavesTheRest,
            TablesEdgesTest::startOfNoMode,
            TablesEdgesTest::startAtNoState,
            TablesEdgesTest::startLocked,
            TablesEdgesTest::startSet,
            TablesEdgesTest::startLeavesTheRest,
            TablesEdgesTest::edgeBad,
            TablesEdgesTest::edgeNone,
            TablesEdgesTest::edgeWithAndWithoutText,
            TablesEdgesTest::edgeChangesNothing,
            TablesEdgesTest::acceptKindBad,
            TablesEdgesTest::acceptKindZero,
            TablesEdgesTest::acceptKindChangesNothing,
            TablesEdgesTest::acceptModeBad,
            TablesEdgesTest::acceptModeStay,
            TablesEdgesTest::acceptModeAsSuch,
            TablesEdgesTest::acceptModeChangesNothing,
            TablesEdgesTest::startBad,
            TablesEdgesTest::startAnswers,
            TablesEdgesTest::startChangesNothing);
    }

    private static RelexBuffer made(int[] sizes) {
        return new RelexBuffer(16, sizes[0], sizes[1], sizes[2]);
    }

    /** The same with a text of one symbol, so that every good change of a table is LOCKED. */
    private static RelexBuffer locked(int[] sizes) {
        RelexBuffer x = made(sizes);
        x.splice(0, 0, 1, 0);
        return x;
    }

    private static boolean outside(int value, int least, int greatest) {
        return value < least || value > greatest;
    }

    private static void edgesUnderEveryBit() {
        CHECK.sentence("Promise 2", "`setEdges(from, mask, to)` sets the edges of state `from` under every symbol c"
            + " whose bit (1 << c) is set in `mask`.");
        for (int[] s : SIZES) {
            for (int mask = 1; mask < 1 << s[1]; mask++) {
                RelexBuffer x = made(s);
                int from = mask % s[0];
                CHECK.due("setEdges(" + from + ", " + mask + ", 0)", x.setEdges(from, mask, 0), OK);
                for (int sym = 0; sym < s[1]; sym++) {
                    boolean set = (mask >> sym & 1) == 1;
                    CHECK.due("mask " + mask + ", edge(" + from + ", " + sym + ")", x.edge(from, sym), set ? 0 : NONE);
                }
            }
        }
    }

    private static void edgesFromNoState() {
        CHECK.sentence("Promise 2", "`from` is not a state: `BAD`.");
        for (int[] s : SIZES) {
            for (int from = -2; from <= 18; from++) {
                int due = outside(from, 0, s[0] - 1) ? BAD : OK;
                CHECK.due("setEdges(" + from + ", 1, 0)", made(s).setEdges(from, 1, 0), due);
                CHECK.due("setEdges(" + from + ", 1, NONE)", made(s).setEdges(from, 1, NONE), due);
                CHECK.due("setEdges(" + from + ", 1, 0), text", locked(s).setEdges(from, 1, 0),
                    due == OK ? LOCKED : BAD);
            }
            for (int v : FAR) {
                CHECK.due("setEdges(" + v + ", 1, 0)", made(s).setEdges(v, 1, 0), BAD);
                CHECK.due("setEdges(" + v + ", 1, 0), text", locked(s).setEdges(v, 1, 0), BAD);
            }
        }
    }

    private static void edgesWithWrongMask() {
        CHECK.sentence("Promise 2", "`mask` is less than 1 or greater than (1 << alphabet) - 1: `BAD`.");
        for (int[] s : SIZES) {
            for (int mask = -260; mask <= 260; mask++) {
                int due = outside(mask, 1, (1 << s[1]) - 1) ? BAD : OK;
                CHECK.due("setEdges(0, " + mask + ", 0)", made(s).setEdges(0, mask, 0), due);
                CHECK.due("setEdges(0, " + mask + ", 0), text", locked(s).setEdges(0, mask, 0),
                    due == OK ? LOCKED : BAD);
            }
            for (int v : FAR) {
                CHECK.due("setEdges(0, " + v + ", 0)", made(s).setEdges(0, v, 0), BAD);
                CHECK.due("setEdges(0, " + v + ", 0), text", locked(s).setEdges(0, v, 0), BAD);
            }
        }
    }

    private static void edgesToNoState() {
        CHECK.sentence("Promise 2", "`to` is neither `NONE` nor a state: `BAD`.");
        for (int[] s : SIZES) {
            for (int to = -3; to <= 18; to++) {
                int due = outside(to, NONE, s[0] - 1) ? BAD : OK;
                CHECK.due("setEdges(0, 1, " + to + ")", made(s).setEdges(0, 1, to), due);
                CHECK.due("setEdges(0, 1, " + to + "), text", locked(s).setEdges(0, 1, to), due == OK ? LOCKED : BAD);
            }
            for (int v : FAR) {
                CHECK.due("setEdges(0, 1, " + v + ")", made(s).setEdges(0, 1, v), BAD);
                CHECK.due("setEdges(0, 1, " + v + "), text", locked(s).setEdges(0, 1, v), BAD);
            }
        }
    }

    private static void edgesLocked() {
        CHECK.sentence("Promise 2", "The text is not empty: `LOCKED`.");
        for (int[] s : SIZES) {
            RelexBuffer x = made(s);
            for (int length = 1; length <= 16; length++) {
                x.splice(0, 0, 1, 0);
                CHECK.due("setEdges, length " + length, x.setEdges(s[0] - 1, (1 << s[1]) - 1, 0), LOCKED);
                CHECK.due("removing, length " + length, x.setEdges(0, 1, NONE), LOCKED);
            }
            CHECK.due("edge", x.edge(s[0] - 1, 0), NONE);
            x.splice(1, 15, 0, 0);
            CHECK.due("setEdges, one symbol left", x.setEdges(0, 1, 0), LOCKED);
            x.splice(0, 1, 0, 0);
            CHECK.due("setEdges, none left", x.setEdges(0, 1, 0), OK);
        }
    }

    private static void edgesSet() {
        CHECK.sentence("Promise 2", "Otherwise the edges are set, old ones being overwritten (or removed if `to` is"
            + " `NONE`), and the answer is `OK`.");
        for (int[] s : SIZES) {
            int all = (1 << s[1]) - 1;
            RelexBuffer x = made(s);
            int last = s[0] - 1;
            int[] targets = {last, 0, NONE, NONE, 1, last};
            for (int to : targets) {
                CHECK.due("setEdges(" + last + ", " + all + ", " + to + ")", x.setEdges(last, all, to), OK);
                for (int sym = 0; sym < s[1]; sym++) {
                    CHECK.due("edge(" + last + ", " + sym + ")", x.edge(last, sym), to);
                }
            }
            CHECK.due("removed under the last symbol", x.setEdges(last, 1 << (s[1] - 1), NONE), OK);
            CHECK.due("edge under the last symbol", x.edge(last, s[1] - 1), NONE);
            CHECK.due("edge under the first symbol", x.edge(last, 0), last);
        }
    }

    /** Every cell of the tables is set, so that a change of any of them shows. */
    private static RelexBuffer rich() {
        RelexBuffer x = new RelexBuffer(8, 16, 8, 4);
        for (int state = 0; state < 16; state++) {
            for (int sym = 0; sym < 8; sym++) {
                x.setEdges(state, 1 << sym, (state + sym + 1) % 16);
            }
            x.setAccept(state, 1 + state % 15, state % 4);
        }
        for (int mode = 0; mode < 4; mode++) {
            x.setStart(mode, 12 - mode);
        }
        x.splice(0, 0, 3, 0x123);
        x.splice(0, 3, 0, 0);
        return x;
    }

    private static void edgesLeaveTheRest() {
        CHECK.sentence("Promise 2", "The edges of `from` under other symbols, the edges of all other states,"
            + " acceptance, starts, the text and the number of executed splices do not change.");
        for (int mask = 1; mask <= 255; mask++) {
            int from = mask % 16;
            RelexBuffer x = rich();
            String before = Picture.all(x);
            CHECK.due("setEdges(" + from + ", " + mask + ", NONE)", x.setEdges(from, mask, NONE), OK);
            for (int sym = 0; sym < 8; sym++) {
                boolean set = (mask >> sym & 1) == 1;
                CHECK.due("edge(" + from + ", " + sym + ")", x.edge(from, sym), set ? NONE : (from + sym + 1) % 16);
                // Once each removed edge is back, any other change would be left over.
                x.setEdges(from, 1 << sym, (from + sym + 1) % 16);
            }
            CHECK.holds("all else is as before, mask " + mask, Picture.all(x).equals(before));
            CHECK.due("edits()", x.edits(), 2);
        }
    }

    private static void acceptOfNoState() {
        CHECK.sentence("Promise 3", "`state` is not a state: `BAD`.");
        for (int[] s : SIZES) {
            for (int state = -2; state <= 18; state++) {
                int due = outside(state, 0, s[0] - 1) ? BAD : OK;
                CHECK.due("setAccept(" + state + ", 1, 0)", made(s).setAccept(state, 1, 0), due);
                CHECK.due("setAccept(" + state + ", 0, STAY)", made(s).setAccept(state, 0, STAY), due);
                CHECK.due("setAccept(" + state + ", 1, 0), text", locked(s).setAccept(state, 1, 0),
                    due == OK ? LOCKED : BAD);
            }
            for (int v : FAR) {
                CHECK.due("setAccept(" + v + ", 1, 0)", made(s).setAccept(v, 1, 0), BAD);
                CHECK.due("setAccept(" + v + ", 1, 0), text", locked(s).setAccept(v, 1, 0), BAD);
            }
        }
    }

    private static void acceptOfNoKind() {
        CHECK.sentence("Promise 3", "`kind` is not in 0..15: `BAD`.");
        for (int[] s : SIZES) {
            for (int kind = -2; kind <= 33; kind++) {
                int due = outside(kind, 0, 15) ? BAD : OK;
                CHECK.due("setAccept(0, " + kind + ", 0)", made(s).setAccept(0, kind, 0), due);
                CHECK.due("setAccept(0, " + kind + ", STAY)", made(s).setAccept(0, kind, STAY), due);
                CHECK.due("setAccept(0, " + kind + ", 0), text", locked(s).setAccept(0, kind, 0),
                    due == OK ? LOCKED : BAD);
            }
            for (int v : FAR) {
                CHECK.due("setAccept(0, " + v + ", 0)", made(s).setAccept(0, v, 0), BAD);
                CHECK.due("setAccept(0, " + v + ", 0), text", locked(s).setAccept(0, v, 0), BAD);
            }
        }
    }

    private static void acceptOfNoMode() {
        CHECK.sentence("Promise 3", "`nextMode` is neither `STAY` nor a mode: `BAD`, also if `kind` is 0.");
        for (int[] s : SIZES) {
            for (int kind : new int[] {0, 1, 15}) {
                for (int next = -3; next <= 6; next++) {
                    String call = "setAccept(0, " + kind + ", " + next + ")";
                    int due = outside(next, STAY, s[2] - 1) ? BAD : OK;
                    CHECK.due(call, made(s).setAccept(0, kind, next), due);
                    CHECK.due(call + ", text", locked(s).setAccept(0, kind, next), due == OK ? LOCKED : BAD);
                }
                for (int v : FAR) {
                    CHECK.due("setAccept(0, " + kind + ", " + v + ")", made(s).setAccept(0, kind, v), BAD);
                    CHECK.due("setAccept(0, " + kind + ", " + v + "), text", locked(s).setAccept(0, kind, v), BAD);
                }
            }
        }
    }

    private static void acceptLocked() {
        CHECK.sentence("Promise 3", "The text is not empty: `LOCKED`.");
        for (int[] s : SIZES) {
            RelexBuffer x = made(s);
            for (int length = 1; length <= 16; length++) {
                x.splice(0, 0, 1, 0);
                CHECK.due("setAccept, length " + length, x.setAccept(s[0] - 1, 15, s[2] - 1), LOCKED);
                CHECK.due("setAccept to kind 0, length " + length, x.setAccept(0, 0, STAY), LOCKED);
            }
            CHECK.due("acceptKind", x.acceptKind(s[0] - 1), 0);
            x.splice(1, 15, 0, 0);
            CHECK.due("setAccept, one symbol left", x.setAccept(0, 1, 0), LOCKED);
            x.splice(0, 1, 0, 0);
            CHECK.due("setAccept, none left", x.setAccept(0, 1, 0), OK);
        }
    }

    private static void acceptSet() {
        CHECK.sentence("Promise 3", "Otherwise, if `kind` is 0, the state becomes not accepting and its next mode"
            + " becomes `STAY`, whatever `nextMode` is; else the state becomes accepting with this `kind` and"
            + " `nextMode`.");
        RelexBuffer x = new RelexBuffer(8, 16, 2, 4);
        for (int kind = 0; kind <= 15; kind++) {
            for (int next = STAY; next < 4; next++) {
                String call = "setAccept(15, " + kind + ", " + next + ")";
                x.setAccept(15, 3, 2);
                CHECK.due(call, x.setAccept(15, kind, next), OK);
                CHECK.due("acceptKind(15) after " + call, x.acceptKind(15), kind);
                CHECK.due("acceptMode(15) after " + call, x.acceptMode(15), kind == 0 ? STAY : next);
            }
        }
        x.setEdges(0, 1, 15);
        x.setAccept(15, 3, 2);
        x.setAccept(15, 0, 2);
        x.splice(0, 0, 1, 0);
        CHECK.due("KIND", x.token(0, RelexBuffer.KIND), 0);
        CHECK.due("endMode()", x.endMode(), 0);
    }

    private static void acceptLeavesTheRest() {
        CHECK.sentence("Promise 3", "The acceptance of other states, the edges, the starts, the text and the number of"
            + " executed splices do not change.");
        for (int state = 0; state < 16; state++) {
            RelexBuffer x = rich();
            String before = Picture.all(x);
            CHECK.due("setAccept(" + state + ", 0, 3)", x.setAccept(state, 0, 3), OK);
            CHECK.holds("the acceptance has changed", !Picture.all(x).equals(before));
            x.setAccept(state, 1 + state % 15, state % 4);
            CHECK.holds("all else is as before, state " + state, Picture.all(x).equals(before));
            CHECK.due("edits()", x.edits(), 2);
        }
    }

    private static void startOfNoMode() {
        CHECK.sentence("Promise 4", "`mode` is not a mode: `BAD`.");
        for (int[] s : SIZES) {
            for (int mode = -2; mode <= 6; mode++) {
                int due = outside(mode, 0, s[2] - 1) ? BAD : OK;
                CHECK.due("setStart(" + mode + ", 0)", made(s).setStart(mode, 0), due);
                CHECK.due("setStart(" + mode + ", 0), text", locked(s).setStart(mode, 0), due == OK ? LOCKED : BAD);
            }
            for (int v : FAR) {
                CHECK.due("setStart(" + v + ", 0)", made(s).setStart(v, 0), BAD);
                CHECK.due("setStart(" + v + ", 0), text", locked(s).setStart(v, 0), BAD);
            }
        }
    }

    private static void startAtNoState() {
        CHECK.sentence("Promise 4", "`state` is not a state: `BAD`.");
        for (int[] s : SIZES) {
            for (int state = -2; state <= 18; state++) {
                int due = outside(state, 0, s[0] - 1) ? BAD : OK;
                CHECK.due("setStart(0, " + state + ")", made(s).setStart(0, state), due);
                CHECK.due("setStart(0, " + state + "), text", locked(s).setStart(0, state), due == OK ? LOCKED : BAD);
            }
            for (int v : FAR) {
                CHECK.due("setStart(0, " + v + ")", made(s).setStart(0, v), BAD);
                CHECK.due("setStart(0, " + v + "), text", locked(s).setStart(0, v), BAD);
            }
        }
    }

    private static void startLocked() {
        CHECK.sentence("Promise 4", "The text is not empty: `LOCKED`.");
        for (int[] s : SIZES) {
            RelexBuffer x = made(s);
            for (int length = 1; length <= 16; length++) {
                x.splice(0, 0, 1, 0);
                CHECK.due("setStart, length " + length, x.setStart(s[2] - 1, s[0] - 1), LOCKED);
                CHECK.due("setStart to the same, length " + length, x.setStart(0, 0), LOCKED);
            }
            CHECK.due("start", x.start(s[2] - 1), 0);
            x.splice(1, 15, 0, 0);
            CHECK.due("setStart, one symbol left", x.setStart(0, 1), LOCKED);
            x.splice(0, 1, 0, 0);
            CHECK.due("setStart, none left", x.setStart(0, 1), OK);
        }
    }

    private static void startSet() {
        CHECK.sentence("Promise 4", "Otherwise the start state of `mode` becomes `state`, and the answer is `OK`.");
        for (int[] s : SIZES) {
            RelexBuffer x = made(s);
            for (int mode = 0; mode < s[2]; mode++) {
                for (int state = s[0] - 1; state >= 0; state--) {
                    CHECK.due("setStart(" + mode + ", " + state + ")", x.setStart(mode, state), OK);
                    CHECK.due("start(" + mode + ")", x.start(mode), state);
                }
            }
        }
    }

    private static void startLeavesTheRest() {
        CHECK.sentence("Promise 4", "The start states of other modes, the edges, acceptance, the text and the number"
            + " of executed splices do not change.");
        for (int mode = 0; mode < 4; mode++) {
            RelexBuffer x = rich();
            String before = Picture.all(x);
            CHECK.due("setStart(" + mode + ", 15)", x.setStart(mode, 15), OK);
            CHECK.holds("the start has changed", !Picture.all(x).equals(before));
            x.setStart(mode, 12 - mode);
            CHECK.holds("all else is as before, mode " + mode, Picture.all(x).equals(before));
            CHECK.due("edits()", x.edits(), 2);
        }
    }

    private static void edgeBad() {
        CHECK.sentence("Promise 5", "`edge(state, sym)` answers `BAD` if `state` is not a state or `sym` is not a"
            + " symbol.");
        for (int[] s : SIZES) {
            RelexBuffer x = made(s);
            for (int state = -2; state <= 18; state++) {
                for (int sym = -2; sym <= 17; sym++) {
                    boolean bad = outside(state, 0, s[0] - 1) || outside(sym, 0, s[1] - 1);
                    CHECK.due("edge(" + state + ", " + sym + ")", x.edge(state, sym), bad ? BAD : NONE);
                }
            }
            for (int v : FAR) {
                CHECK.due("edge(" + v + ", 0)", x.edge(v, 0), BAD);
                CHECK.due("edge(0, " + v + ")", x.edge(0, v), BAD);
                CHECK.due("edge(" + v + ", " + v + ")", x.edge(v, v), BAD);
            }
        }
    }

    private static void edgeNone() {
        CHECK.sentence("Promise 5", "Otherwise it answers the target of the edge of `state` under `sym`, or `NONE` if"
            + " there is none.");
        RelexBuffer x = new RelexBuffer(8, 4, 2, 1);
        CHECK.due("edge(3, 1), never set", x.edge(3, 1), NONE);
        x.setEdges(3, 2, 0);
        CHECK.due("edge(3, 1), to state 0", x.edge(3, 1), 0);
        CHECK.due("edge(3, 0), never set", x.edge(3, 0), NONE);
        x.setEdges(3, 2, 3);
        CHECK.due("edge(3, 1), to itself", x.edge(3, 1), 3);
        x.setEdges(3, 2, NONE);
        CHECK.due("edge(3, 1), removed", x.edge(3, 1), NONE);
    }

    private static void edgeWithAndWithoutText() {
        CHECK.sentence("Promise 5", "It answers so whether or not the text is empty, and changes nothing.");
        RelexBuffer x = rich();
        for (int length = 0; length <= 8; length++) {
            for (int state = 0; state < 16; state++) {
                for (int sym = 0; sym < 8; sym++) {
                    CHECK.due("edge(" + state + ", " + sym + ")", x.edge(state, sym), (state + sym + 1) % 16);
                }
            }
            CHECK.due("edge(16, 0), length " + length, x.edge(16, 0), BAD);
            CHECK.due("edge(0, 8), length " + length, x.edge(0, 8), BAD);
            x.splice(0, 0, 1, 7);
        }
    }

    private static void acceptKindBad() {
        CHECK.sentence("Promise 6", "`acceptKind(state)` answers `BAD` if `state` is not a state.");
        for (int[] s : SIZES) {
            for (RelexBuffer x : List.of(made(s), locked(s))) {
                for (int state = -2; state <= 18; state++) {
                    int due = outside(state, 0, s[0] - 1) ? BAD : 0;
                    CHECK.due("acceptKind(" + state + ")", x.acceptKind(state), due);
                }
                for (int v : FAR) {
                    CHECK.due("acceptKind(" + v + ")", x.acceptKind(v), BAD);
                }
            }
        }
    }

    private static void acceptKindZero() {
        CHECK.sentence("Promise 6", "Otherwise it answers the kind of the state, which is 0 if the state is not"
            + " accepting.");
        RelexBuffer x = new RelexBuffer(8, 16, 2, 2);
        for (int state = 0; state < 16; state++) {
            CHECK.due("acceptKind(" + state + "), never set", x.acceptKind(state), 0);
            x.setAccept(state, 15 - state, 1);
        }
        for (int state = 0; state < 16; state++) {
            CHECK.due("acceptKind(" + state + ")", x.acceptKind(state), 15 - state);
        }
        x.setAccept(0, 0, STAY);
        CHECK.due("acceptKind(0), no more accepting", x.acceptKind(0), 0);
        x.splice(0, 0, 1, 0);
        CHECK.due("acceptKind(0), with a text", x.acceptKind(0), 0);
        CHECK.due("acceptKind(1), with a text", x.acceptKind(1), 14);
    }

    private static void acceptModeBad() {
        CHECK.sentence("Promise 7", "`acceptMode(state)` answers `BAD` if `state` is not a state.");
        for (int[] s : SIZES) {
            for (RelexBuffer x : List.of(made(s), locked(s))) {
                for (int state = -2; state <= 18; state++) {
                    int due = outside(state, 0, s[0] - 1) ? BAD : STAY;
                    CHECK.due("acceptMode(" + state + ")", x.acceptMode(state), due);
                }
                for (int v : FAR) {
                    CHECK.due("acceptMode(" + v + ")", x.acceptMode(v), BAD);
                }
            }
        }
    }

    private static void acceptModeStay() {
        CHECK.sentence("Promise 7", "Otherwise it answers the next mode of the state: a mode or `STAY`, and `STAY` if"
            + " the state is not accepting.");
        RelexBuffer x = new RelexBuffer(8, 4, 2, 4);
        for (int state = 0; state < 4; state++) {
            CHECK.due("acceptMode(" + state + "), never set", x.acceptMode(state), STAY);
            x.setAccept(state, 1, state);
            CHECK.due("acceptMode(" + state + ")", x.acceptMode(state), state);
        }
        x.setAccept(3, 0, 3);
        CHECK.due("acceptMode(3), no more accepting", x.acceptMode(3), STAY);
        x.setAccept(0, 0, 0);
        CHECK.due("acceptMode(0), no more accepting", x.acceptMode(0), STAY);
        CHECK.due("acceptMode(1)", x.acceptMode(1), 1);
    }

    private static void acceptModeAsSuch() {
        CHECK.sentence("Promise 7", "`STAY` is answered as such and is not replaced by a mode.");
        RelexBuffer x = new RelexBuffer(8, 4, 2, 2);
        x.setEdges(0, 1, 1);
        x.setAccept(1, 1, 1);
        x.setStart(1, 2);
        x.setEdges(2, 1, 3);
        x.setAccept(3, 2, STAY);
        x.splice(0, 0, 3, 0);
        CHECK.due("endMode()", x.endMode(), 1);
        CHECK.due("acceptMode(3)", x.acceptMode(3), STAY);
        CHECK.due("acceptMode(1)", x.acceptMode(1), 1);
    }

    private static void startBad() {
        CHECK.sentence("Promise 8", "`start(mode)` answers `BAD` if `mode` is not a mode.");
        for (int[] s : SIZES) {
            for (RelexBuffer x : List.of(made(s), locked(s))) {
                for (int mode = -2; mode <= 18; mode++) {
                    CHECK.due("start(" + mode + ")", x.start(mode), outside(mode, 0, s[2] - 1) ? BAD : 0);
                }
                for (int v : FAR) {
                    CHECK.due("start(" + v + ")", x.start(v), BAD);
                }
            }
        }
    }

    private static void startAnswers() {
        CHECK.sentence("Promise 8", "Otherwise it answers the start state of the mode.");
        RelexBuffer x = new RelexBuffer(8, 16, 2, 4);
        int[] states = {15, 0, 7, 1};
        for (int mode = 0; mode < 4; mode++) {
            CHECK.due("start(" + mode + "), never set", x.start(mode), 0);
            x.setStart(mode, states[mode]);
        }
        for (int length = 0; length <= 8; length++) {
            for (int mode = 0; mode < 4; mode++) {
                CHECK.due("start(" + mode + "), length " + length, x.start(mode), states[mode]);
            }
            x.splice(0, 0, 1, 0);
        }
    }

    private static void edgeChangesNothing() {
        CHECK.sentence("Promise 5", "It answers so whether or not the text is empty, and changes nothing. (nothing)");
        Untouched.byAsking(CHECK, (x, v) -> x.edge(v, 0) + x.edge(0, v));
    }

    private static void acceptKindChangesNothing() {
        CHECK.sentence("Promise 6", "It changes nothing.");
        Untouched.byAsking(CHECK, (x, v) -> x.acceptKind(v));
    }

    private static void acceptModeChangesNothing() {
        CHECK.sentence("Promise 7", "It changes nothing.");
        Untouched.byAsking(CHECK, (x, v) -> x.acceptMode(v));
    }

    private static void startChangesNothing() {
        CHECK.sentence("Promise 8", "It changes nothing.");
        Untouched.byAsking(CHECK, (x, v) -> x.start(v));
    }
}
