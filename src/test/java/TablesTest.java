/** Promises 2 to 8: the tables, their setters and their readers. */
public final class TablesTest {
    private static final Check CHECK = new Check();
    private static final int[] FAR = {Integer.MIN_VALUE, -100, Integer.MAX_VALUE, 1 << 30};

    public static void main(String[] args) {
        setEdgesSetsJustTheMask();
        setEdgesOverwritesAndRemoves();
        setEdgesWrong();
        setAcceptSetsJustOneState();
        setAcceptKindZero();
        setAcceptWrong();
        setStartSetsJustOneMode();
        setStartWrong();
        lockedWhileThereIsText();
        badComesBeforeLocked();
        readersWithText();
        CHECK.end();
    }

    private static RelexBuffer small() {
        return new RelexBuffer(8, 5, 3, 2);
    }

    private static void edges(RelexBuffer x, int state, int a, int b, int c) {
        CHECK.due("edge(" + state + ", 0)", x.edge(state, 0), a);
        CHECK.due("edge(" + state + ", 1)", x.edge(state, 1), b);
        CHECK.due("edge(" + state + ", 2)", x.edge(state, 2), c);
    }

    private static void setEdgesSetsJustTheMask() {
        for (int mask = 1; mask <= 7; mask++) {
            RelexBuffer x = small();
            CHECK.due("setEdges(4, " + mask + ", 4)", x.setEdges(4, mask, 4), 0);
            edges(x, 4, (mask & 1) != 0 ? 4 : -1, (mask & 2) != 0 ? 4 : -1, (mask & 4) != 0 ? 4 : -1);
            for (int state = 0; state < 4; state++) {
                edges(x, state, -1, -1, -1);
                CHECK.due("acceptKind", x.acceptKind(state), 0);
                CHECK.due("acceptMode", x.acceptMode(state), -1);
            }
            CHECK.due("start(0)", x.start(0), 0);
            CHECK.due("start(1)", x.start(1), 0);
            CHECK.due("edits()", x.edits(), 0);
            CHECK.due("length()", x.length(), 0);
        }
    }

    private static void setEdgesOverwritesAndRemoves() {
        RelexBuffer x = small();
        x.setEdges(1, 7, 3);
        CHECK.due("setEdges(1, 2, 0)", x.setEdges(1, 2, 0), 0);
        edges(x, 1, 3, 0, 3);
        CHECK.due("setEdges(1, 5, NONE)", x.setEdges(1, 5, RelexBuffer.NONE), 0);
        edges(x, 1, -1, 0, -1);
        CHECK.due("setEdges(1, 1, NONE)", x.setEdges(1, 1, RelexBuffer.NONE), 0);
        edges(x, 1, -1, 0, -1);
        CHECK.due("setEdges(1, 4, 1)", x.setEdges(1, 4, 1), 0);
        edges(x, 1, -1, 0, 1);
    }

    private static void setEdgesWrong() {
        RelexBuffer x = small();
        x.setEdges(2, 7, 1);
        int[][] wrong = {{-1, 1, 0}, {5, 1, 0}, {0, 0, 0}, {0, -1, 0}, {0, 8, 0}, {0, 15, 0}, {0, 1, -2}, {0, 1, 5}};
        for (int[] w : wrong) {
            CHECK.due("setEdges(" + w[0] + ", " + w[1] + ", " + w[2] + ")", x.setEdges(w[0], w[1], w[2]), -2);
        }
        for (int v : FAR) {
            CHECK.due("setEdges(" + v + ", 1, 0)", x.setEdges(v, 1, 0), -2);
            CHECK.due("setEdges(0, " + v + ", 0)", x.setEdges(0, v, 0), -2);
            CHECK.due("setEdges(0, 1, " + v + ")", x.setEdges(0, 1, v), -2);
        }
        for (int state = 0; state < 5; state++) {
            int due = state == 2 ? 1 : -1;
            edges(x, state, due, due, due);
        }
    }

    private static void setAcceptSetsJustOneState() {
        RelexBuffer x = small();
        CHECK.due("setAccept(4, 15, 1)", x.setAccept(4, 15, 1), 0);
        CHECK.due("setAccept(2, 1, STAY)", x.setAccept(2, 1, RelexBuffer.STAY), 0);
        CHECK.due("setAccept(0, 7, 0)", x.setAccept(0, 7, 0), 0);
        int[] kinds = {7, 0, 1, 0, 15};
        int[] nexts = {0, -1, -1, -1, 1};
        for (int state = 0; state < 5; state++) {
            CHECK.due("acceptKind(" + state + ")", x.acceptKind(state), kinds[state]);
            CHECK.due("acceptMode(" + state + ")", x.acceptMode(state), nexts[state]);
            edges(x, state, -1, -1, -1);
        }
        CHECK.due("start(1)", x.start(1), 0);
        CHECK.due("edits()", x.edits(), 0);
    }

    private static void setAcceptKindZero() {
        RelexBuffer x = small();
        x.setAccept(3, 9, 1);
        CHECK.due("setAccept(3, 0, 1)", x.setAccept(3, 0, 1), 0);
        CHECK.due("acceptKind(3)", x.acceptKind(3), 0);
        CHECK.due("acceptMode(3)", x.acceptMode(3), -1);
        CHECK.due("setAccept(3, 0, 0)", x.setAccept(3, 0, 0), 0);
        CHECK.due("acceptMode(3)", x.acceptMode(3), -1);
        x.setAccept(3, 9, 1);
        CHECK.due("setAccept(3, 9, STAY)", x.setAccept(3, 9, -1), 0);
        CHECK.due("acceptMode(3)", x.acceptMode(3), -1);
    }

    private static void setAcceptWrong() {
        RelexBuffer x = small();
        x.setAccept(0, 6, 1);
        int[][] wrong = {
            {-1, 1, 0}, {5, 1, 0}, {0, -1, 0}, {0, 16, 0}, {0, 1, -2}, {0, 1, 2}, {0, 0, 2}, {0, 0, -2}
        };
        for (int[] w : wrong) {
            CHECK.due("setAccept(" + w[0] + ", " + w[1] + ", " + w[2] + ")", x.setAccept(w[0], w[1], w[2]), -2);
        }
        for (int v : FAR) {
            CHECK.due("setAccept(" + v + ", 1, 0)", x.setAccept(v, 1, 0), -2);
            CHECK.due("setAccept(0, " + v + ", 0)", x.setAccept(0, v, 0), -2);
            CHECK.due("setAccept(0, 1, " + v + ")", x.setAccept(0, 1, v), -2);
            CHECK.due("setAccept(0, 0, " + v + ")", x.setAccept(0, 0, v), -2);
        }
        CHECK.due("acceptKind(0)", x.acceptKind(0), 6);
        CHECK.due("acceptMode(0)", x.acceptMode(0), 1);
    }

    private static void setStartSetsJustOneMode() {
        RelexBuffer x = new RelexBuffer(8, 5, 3, 4);
        CHECK.due("setStart(2, 4)", x.setStart(2, 4), 0);
        CHECK.due("setStart(3, 1)", x.setStart(3, 1), 0);
        CHECK.due("setStart(0, 2)", x.setStart(0, 2), 0);
        CHECK.due("setStart(3, 0)", x.setStart(3, 0), 0);
        int[] due = {2, 0, 4, 0};
        for (int mode = 0; mode < 4; mode++) {
            CHECK.due("start(" + mode + ")", x.start(mode), due[mode]);
        }
        CHECK.due("edits()", x.edits(), 0);
        CHECK.due("acceptKind(4)", x.acceptKind(4), 0);
        edges(x, 4, -1, -1, -1);
    }

    private static void setStartWrong() {
        RelexBuffer x = small();
        x.setStart(0, 3);
        CHECK.due("setStart(-1, 0)", x.setStart(-1, 0), -2);
        CHECK.due("setStart(2, 0)", x.setStart(2, 0), -2);
        CHECK.due("setStart(0, -1)", x.setStart(0, -1), -2);
        CHECK.due("setStart(0, 5)", x.setStart(0, 5), -2);
        for (int v : FAR) {
            CHECK.due("setStart(" + v + ", 0)", x.setStart(v, 0), -2);
            CHECK.due("setStart(0, " + v + ")", x.setStart(0, v), -2);
        }
        CHECK.due("start(0)", x.start(0), 3);
        CHECK.due("start(1)", x.start(1), 0);
    }

    private static void lockedWhileThereIsText() {
        RelexBuffer x = small();
        x.splice(0, 0, 1, 0);
        CHECK.due("setEdges(0, 1, 1), text", x.setEdges(0, 1, 1), -3);
        CHECK.due("setEdges(0, 1, NONE), text", x.setEdges(0, 1, -1), -3);
        CHECK.due("setAccept(1, 2, 1), text", x.setAccept(1, 2, 1), -3);
        CHECK.due("setAccept(1, 0, STAY), text", x.setAccept(1, 0, -1), -3);
        CHECK.due("setStart(1, 1), text", x.setStart(1, 1), -3);
        CHECK.due("edge(0, 0)", x.edge(0, 0), -1);
        CHECK.due("acceptKind(1)", x.acceptKind(1), 0);
        CHECK.due("acceptMode(1)", x.acceptMode(1), -1);
        CHECK.due("start(1)", x.start(1), 0);
        CHECK.due("splice(0, 1, 0, 0)", x.splice(0, 1, 0, 0), 0);
        CHECK.due("setEdges(0, 1, 1), empty again", x.setEdges(0, 1, 1), 0);
        CHECK.due("setAccept(1, 2, 1), empty again", x.setAccept(1, 2, 1), 0);
        CHECK.due("setStart(1, 1), empty again", x.setStart(1, 1), 0);
        CHECK.due("edge(0, 0)", x.edge(0, 0), 1);
        CHECK.due("acceptKind(1)", x.acceptKind(1), 2);
        CHECK.due("acceptMode(1)", x.acceptMode(1), 1);
        CHECK.due("start(1)", x.start(1), 1);
        CHECK.due("edits()", x.edits(), 2);
        CHECK.due("splice(0, 0, 1, 0)", x.splice(0, 0, 1, 0), 1);
        CHECK.due("token(0, KIND)", x.token(0, RelexBuffer.KIND), 2);
        CHECK.due("endMode()", x.endMode(), 1);
    }

    private static void badComesBeforeLocked() {
        RelexBuffer x = small();
        x.splice(0, 0, 1, 0);
        CHECK.due("setEdges(5, 1, 0), text", x.setEdges(5, 1, 0), -2);
        CHECK.due("setEdges(0, 0, 0), text", x.setEdges(0, 0, 0), -2);
        CHECK.due("setEdges(0, 8, 0), text", x.setEdges(0, 8, 0), -2);
        CHECK.due("setEdges(0, 1, 5), text", x.setEdges(0, 1, 5), -2);
        CHECK.due("setAccept(5, 1, 0), text", x.setAccept(5, 1, 0), -2);
        CHECK.due("setAccept(0, 16, 0), text", x.setAccept(0, 16, 0), -2);
        CHECK.due("setAccept(0, 0, 2), text", x.setAccept(0, 0, 2), -2);
        CHECK.due("setStart(2, 0), text", x.setStart(2, 0), -2);
        CHECK.due("setStart(0, 5), text", x.setStart(0, 5), -2);
    }

    private static void readersWithText() {
        RelexBuffer x = Sample.filled();
        CHECK.due("edge(5, 3)", x.edge(5, 3), 6);
        CHECK.due("edge(5, 2)", x.edge(5, 2), 7);
        CHECK.due("edge(4, 2)", x.edge(4, 2), -1);
        CHECK.due("edge(8, 0)", x.edge(8, 0), -2);
        CHECK.due("edge(-1, 0)", x.edge(-1, 0), -2);
        CHECK.due("edge(0, 4)", x.edge(0, 4), -2);
        CHECK.due("edge(0, -1)", x.edge(0, -1), -2);
        CHECK.due("acceptKind(6)", x.acceptKind(6), 4);
        CHECK.due("acceptKind(8)", x.acceptKind(8), -2);
        CHECK.due("acceptKind(-1)", x.acceptKind(-1), -2);
        CHECK.due("acceptMode(6)", x.acceptMode(6), -1);
        CHECK.due("acceptMode(7)", x.acceptMode(7), 0);
        CHECK.due("acceptMode(4)", x.acceptMode(4), 1);
        CHECK.due("acceptMode(8)", x.acceptMode(8), -2);
        CHECK.due("acceptMode(-1)", x.acceptMode(-1), -2);
        CHECK.due("start(1)", x.start(1), 5);
        CHECK.due("start(2)", x.start(2), -2);
        CHECK.due("start(-1)", x.start(-1), -2);
    }
}
