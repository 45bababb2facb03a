/** Promise 1: the constructor clamps each size on its own, and a new buffer is empty. */
public final class StartTest {
    private static final Check CHECK = new Check();

    public static void main(String[] args) {
        int[] all = {
            Integer.MIN_VALUE, -1, 0, 1, 2, 3, 4, 5, 7, 8, 9, 15, 16, 17, 63, 64, 65, 1000, Integer.MAX_VALUE
        };
        for (int v : all) {
            sizes(v, 5, 3, 2);
            sizes(20, v, 3, 2);
            sizes(20, 5, v, 2);
            sizes(20, 5, 3, v);
            sizes(v, v, v, v);
        }
        constants();
        startIsEmpty();
        buffersAreApart();
        CHECK.end();
    }

    private static void sizes(int capacity, int states, int alphabet, int modes) {
        String when = "new (" + capacity + ", " + states + ", " + alphabet + ", " + modes + ")";
        RelexBuffer x = new RelexBuffer(capacity, states, alphabet, modes);
        Model m = new Model(capacity, states, alphabet, modes);
        Same.everywhere(CHECK, when, x, m);
        CHECK.due(when + ": states", countStates(x), clamped(states, 4, 16));
        CHECK.due(when + ": alphabet", countSymbols(x), clamped(alphabet, 2, 8));
        CHECK.due(when + ": modes", countModes(x), clamped(modes, 1, 4));
        CHECK.due(when + ": capacity", countRoom(x), clamped(capacity, 8, 64));
        CHECK.due(when + ": states, text full", countStates(x), clamped(states, 4, 16));
        CHECK.due(when + ": modes, text full", countModes(x), clamped(modes, 1, 4));
    }

    private static int clamped(int value, int least, int most) {
        return Math.max(least, Math.min(most, value));
    }

    private static int countStates(RelexBuffer x) {
        int count = 0;
        while (count < 100 && x.acceptKind(count) == 0) {
            count++;
        }
        return count;
    }

    private static int countSymbols(RelexBuffer x) {
        int count = 0;
        while (count < 100 && x.edge(0, count) == RelexBuffer.NONE) {
            count++;
        }
        return count;
    }

    private static int countModes(RelexBuffer x) {
        int count = 0;
        while (count < 100 && x.start(count) == 0) {
            count++;
        }
        return count;
    }

    private static int countRoom(RelexBuffer x) {
        int count = 0;
        while (count < 100 && x.splice(0, 0, 1, 0) >= 0) {
            count++;
        }
        return count;
    }

    private static void constants() {
        CHECK.due("OK", RelexBuffer.OK, 0);
        CHECK.due("NONE", RelexBuffer.NONE, -1);
        CHECK.due("STAY", RelexBuffer.STAY, -1);
        CHECK.due("BAD", RelexBuffer.BAD, -2);
        CHECK.due("LOCKED", RelexBuffer.LOCKED, -3);
        CHECK.due("FULL", RelexBuffer.FULL, -4);
        CHECK.due("START", RelexBuffer.START, 0);
        CHECK.due("END", RelexBuffer.END, 1);
        CHECK.due("KIND", RelexBuffer.KIND, 2);
        CHECK.due("MODE", RelexBuffer.MODE, 3);
        CHECK.due("REACH", RelexBuffer.REACH, 4);
        CHECK.due("BIRTH", RelexBuffer.BIRTH, 5);
    }

    private static void startIsEmpty() {
        RelexBuffer x = new RelexBuffer(8, 4, 2, 1);
        CHECK.due("length()", x.length(), 0);
        CHECK.due("tokenCount()", x.tokenCount(), 0);
        CHECK.due("edits()", x.edits(), 0);
        CHECK.due("endMode()", x.endMode(), 0);
        CHECK.due("edge(3, 1)", x.edge(3, 1), -1);
        CHECK.due("acceptKind(3)", x.acceptKind(3), 0);
        CHECK.due("acceptMode(3)", x.acceptMode(3), -1);
        CHECK.due("start(0)", x.start(0), 0);
        CHECK.due("splice(0, 0, 1, 1)", x.splice(0, 0, 1, 1), 1);
        CHECK.due("token(0, BIRTH)", x.token(0, RelexBuffer.BIRTH), 1);
    }

    private static void buffersAreApart() {
        RelexBuffer one = Sample.filled();
        RelexBuffer other = new RelexBuffer(16, 8, 4, 2);
        CHECK.due("other.length()", other.length(), 0);
        CHECK.due("other.edge(0, 0)", other.edge(0, 0), -1);
        CHECK.due("other.start(1)", other.start(1), 0);
        other.setAccept(1, 9, 1);
        other.splice(0, 0, 3, 0x333);
        CHECK.due("one.acceptKind(1)", one.acceptKind(1), 1);
        CHECK.holds("one keeps its text", Sample.text(one).equals("aab\"ab\"a"));
        CHECK.due("one.edits()", one.edits(), 1);
    }
}
