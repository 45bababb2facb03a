/** Promise 1: each sentence that names an edge has a test of its own. */
public final class StartEdgesTest {
    private static final Check CHECK = new Check();
    private static final String WHERE = "Promise 1";
    private static final int BAD = RelexBuffer.BAD;
    private static final int[] LEAST = {8, 4, 2, 1};
    private static final int[] GREATEST = {64, 16, 8, 4};
    private static final int[] BETWEEN = {20, 7, 5, 2};

    public static void main(String[] args) {
        CHECK.each(
            StartEdgesTest::anyIntValues,
            StartEdgesTest::eachOnItsOwn,
            StartEdgesTest::belowTheLeast,
            StartEdgesTest::aboveTheGreatest,
            StartEdgesTest::rangesInclusive,
            StartEdgesTest::sizesNeverChange,
            StartEdgesTest::emptyAtTheStart,
            StartEdgesTest::tablesAtTheStart,
            StartEdgesTest::fourZeros);
    }

    private static RelexBuffer made(int[] sizes) {
        return new RelexBuffer(sizes[0], sizes[1], sizes[2], sizes[3]);
    }

    private static int[] with(int[] sizes, int which, int value) {
        int[] changed = sizes.clone();
        changed[which] = value;
        return changed;
    }

    /** Asks for the sizes by what is refused just beyond them, with a text that is filled and emptied again. */
    private static void sizesAre(RelexBuffer x, String when, int[] due) {
        CHECK.due(when + ": the last state", x.acceptKind(due[1] - 1), 0);
        CHECK.due(when + ": no state", x.acceptKind(due[1]), BAD);
        CHECK.due(when + ": the last symbol", x.edge(0, due[2] - 1), RelexBuffer.NONE);
        CHECK.due(when + ": no symbol", x.edge(0, due[2]), BAD);
        CHECK.due(when + ": the greatest mask", x.setEdges(0, (1 << due[2]) - 1, RelexBuffer.NONE), RelexBuffer.OK);
        CHECK.due(when + ": too great a mask", x.setEdges(0, 1 << due[2], RelexBuffer.NONE), BAD);
        CHECK.due(when + ": the last mode", x.start(due[3] - 1), 0);
        CHECK.due(when + ": no mode", x.start(due[3]), BAD);
        CHECK.due(when + ": a symbol too great", x.splice(0, 0, 1, due[2]), BAD);
        for (int k = 0; k < due[0]; k++) {
            CHECK.due(when + ": symbol " + k, x.splice(k, 0, 1, due[2] - 1), 1);
        }
        CHECK.due(when + ": one symbol too many", x.splice(0, 0, 1, 0), RelexBuffer.FULL);
        CHECK.due(when + ": length()", x.length(), due[0]);
        CHECK.due(when + ": emptied", x.splice(0, due[0], 0, 0), 0);
    }

    private static void anyIntValues() {
        CHECK.sentence(WHERE, "`RelexBuffer(capacity, states, alphabet, modes)` takes any int values.");
        int[] all = {
            Integer.MIN_VALUE, Integer.MIN_VALUE + 1, -1000, -64, -8, -1, 0, 100, 256, 1000, 65536, 1 << 30,
            Integer.MAX_VALUE - 1, Integer.MAX_VALUE
        };
        for (int v : all) {
            sizesAre(made(new int[] {v, v, v, v}), "all are " + v, v < 1 ? LEAST : GREATEST);
        }
    }

    private static void eachOnItsOwn() {
        CHECK.sentence(WHERE, "Each argument is clamped on its own");
        for (int which = 0; which < 4; which++) {
            int[] low = with(BETWEEN, which, Integer.MIN_VALUE);
            sizesAre(made(low), "argument " + which + " far below", with(BETWEEN, which, LEAST[which]));
            int[] high = with(BETWEEN, which, Integer.MAX_VALUE);
            sizesAre(made(high), "argument " + which + " far above", with(BETWEEN, which, GREATEST[which]));
        }
        sizesAre(made(BETWEEN), "none to be clamped", BETWEEN);
        sizesAre(made(new int[] {-1, 99, -1, 99}), "by turns", new int[] {8, 16, 2, 4});
        sizesAre(made(new int[] {99, -1, 99, -1}), "by turns", new int[] {64, 4, 8, 1});
    }

    private static void belowTheLeast() {
        CHECK.sentence(WHERE, "below the least it becomes the least");
        for (int which = 0; which < 4; which++) {
            int[] due = with(BETWEEN, which, LEAST[which]);
            sizesAre(made(with(BETWEEN, which, LEAST[which] - 1)), "argument " + which + " just below", due);
            sizesAre(made(with(BETWEEN, which, 0)), "argument " + which + " is 0", due);
            sizesAre(made(with(BETWEEN, which, -1)), "argument " + which + " is -1", due);
        }
    }

    private static void aboveTheGreatest() {
        CHECK.sentence(WHERE, "above the greatest it becomes the greatest");
        for (int which = 0; which < 4; which++) {
            int[] due = with(BETWEEN, which, GREATEST[which]);
            sizesAre(made(with(BETWEEN, which, GREATEST[which] + 1)), "argument " + which + " just above", due);
            sizesAre(made(with(BETWEEN, which, 2 * GREATEST[which])), "argument " + which + " twice", due);
        }
    }

    private static void rangesInclusive() {
        CHECK.sentence(WHERE, "The ranges are capacity 8..64, states 4..16, alphabet 2..8, modes 1..4.");
        for (int which = 0; which < 4; which++) {
            for (int v = LEAST[which] - 1; v <= GREATEST[which] + 1; v++) {
                int due = Math.max(LEAST[which], Math.min(GREATEST[which], v));
                sizesAre(made(with(BETWEEN, which, v)), "argument " + which + " is " + v, with(BETWEEN, which, due));
            }
        }
        sizesAre(made(LEAST), "all least", LEAST);
        sizesAre(made(GREATEST), "all greatest", GREATEST);
    }

    private static void sizesNeverChange() {
        CHECK.sentence(WHERE, "The clamped values are the sizes, and they never change afterwards.");
        for (int[] sizes : new int[][] {LEAST, BETWEEN, GREATEST}) {
            RelexBuffer x = made(sizes);
            x.setEdges(1, 3, 2);
            x.setAccept(2, 15, 0);
            for (int round = 0; round < 3; round++) {
                sizesAre(x, "round " + round, sizes);
            }
        }
    }

    private static void emptyAtTheStart() {
        CHECK.sentence(WHERE, "At the start the text is empty, there are no tokens, and no splice has been executed.");
        for (int[] sizes : new int[][] {LEAST, BETWEEN, GREATEST}) {
            RelexBuffer x = made(sizes);
            for (int pos = -1; pos <= 65; pos++) {
                CHECK.due("symbolAt(" + pos + ")", x.symbolAt(pos), BAD);
                CHECK.due("tokenAt(" + pos + ")", x.tokenAt(pos), BAD);
                CHECK.due("token(" + pos + ", START)", x.token(pos, RelexBuffer.START), BAD);
            }
            CHECK.due("splice(0, 1, 0, 0)", x.splice(0, 1, 0, 0), BAD);
            CHECK.due("the first splice", x.splice(0, 0, 2, 0x10), 2);
            CHECK.due("its number", x.token(0, RelexBuffer.BIRTH), 1);
            CHECK.due("edits()", x.edits(), 1);
        }
    }

    private static void tablesAtTheStart() {
        CHECK.sentence(WHERE, "There are no edges, no state is accepting (every kind is 0), every next mode is `STAY`,"
            + " and the start state of every mode is state 0.");
        for (int[] sizes : new int[][] {LEAST, BETWEEN, GREATEST}) {
            RelexBuffer x = made(sizes);
            for (int state = 0; state < sizes[1]; state++) {
                for (int sym = 0; sym < sizes[2]; sym++) {
                    CHECK.due("edge(" + state + ", " + sym + ")", x.edge(state, sym), RelexBuffer.NONE);
                }
                CHECK.due("acceptKind(" + state + ")", x.acceptKind(state), 0);
                CHECK.due("acceptMode(" + state + ")", x.acceptMode(state), RelexBuffer.STAY);
            }
            for (int mode = 0; mode < sizes[3]; mode++) {
                CHECK.due("start(" + mode + ")", x.start(mode), 0);
            }
        }
    }

    private static void fourZeros() {
        CHECK.sentence(WHERE, "So `length()`, `tokenCount()`, `edits()` and `endMode()` answer 0.");
        for (int[] sizes : new int[][] {LEAST, BETWEEN, GREATEST}) {
            RelexBuffer x = made(sizes);
            CHECK.due("length()", x.length(), 0);
            CHECK.due("tokenCount()", x.tokenCount(), 0);
            CHECK.due("edits()", x.edits(), 0);
            CHECK.due("endMode()", x.endMode(), 0);
        }
    }
}
