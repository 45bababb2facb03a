/** Promises 13 to 17: the tokens and what is asked of them. */
public final class TokensTest {
    private static final Check CHECK = new Check();

    public static void main(String[] args) {
        noTokens();
        sampleTokens();
        tokenWrong();
        tokenAtEveryPlace();
        stableAtEveryPlace();
        acceptingStartCountsOnlyWhenReached();
        stateWithoutEdges();
        longestMatchGoesBack();
        errorReachesBeyondItsEnd();
        modesAfterTokens();
        fullOfTokens();
        CHECK.end();
    }

    private static void column(RelexBuffer x, int field, String due) {
        String got = Sample.column(x, field);
        CHECK.holds("field " + field + " is " + due + ", got " + got, got.equals(due));
    }

    private static void noTokens() {
        RelexBuffer x = Sample.empty(16);
        for (int round = 0; round < 2; round++) {
            CHECK.due("tokenCount()", x.tokenCount(), 0);
            CHECK.due("endMode()", x.endMode(), 0);
            CHECK.due("tokenAt(0)", x.tokenAt(0), -2);
            CHECK.due("tokenAt(-1)", x.tokenAt(-1), -2);
            CHECK.due("stableCount(0)", x.stableCount(0), 0);
            CHECK.due("stableCount(1)", x.stableCount(1), -2);
            CHECK.due("stableCount(-1)", x.stableCount(-1), -2);
            for (int field = -1; field <= 6; field++) {
                CHECK.due("token(0, " + field + ")", x.token(0, field), -2);
            }
            Sample.put(x, 0, 0, "a\"");
            CHECK.due("endMode(), within quotes", x.endMode(), 1);
            x.splice(0, 2, 0, 0);
        }
    }

    private static void sampleTokens() {
        RelexBuffer x = Sample.filled();
        CHECK.due("tokenCount()", x.tokenCount(), 6);
        column(x, RelexBuffer.START, "0 2 3 4 6 7");
        column(x, RelexBuffer.END, "2 3 4 6 7 8");
        column(x, RelexBuffer.KIND, "1 0 3 4 5 1");
        column(x, RelexBuffer.MODE, "0 0 0 1 1 0");
        column(x, RelexBuffer.REACH, "4 3 4 7 7 9");
        column(x, RelexBuffer.BIRTH, "1 1 1 1 1 1");
        CHECK.due("endMode()", x.endMode(), 0);
    }

    private static void tokenWrong() {
        RelexBuffer x = Sample.filled();
        int[] wrongTokens = {-1, 6, 7, 63, 64, 65, Integer.MIN_VALUE, Integer.MAX_VALUE, 1 << 30};
        for (int i : wrongTokens) {
            CHECK.due("token(" + i + ", START)", x.token(i, RelexBuffer.START), -2);
            CHECK.due("token(" + i + ", BIRTH)", x.token(i, RelexBuffer.BIRTH), -2);
        }
        int[] wrongFields = {-1, 6, 7, -2, Integer.MIN_VALUE, Integer.MAX_VALUE};
        for (int field : wrongFields) {
            CHECK.due("token(0, " + field + ")", x.token(0, field), -2);
            CHECK.due("token(5, " + field + ")", x.token(5, field), -2);
        }
    }

    private static void tokenAtEveryPlace() {
        RelexBuffer x = Sample.filled();
        int[] due = {-2, 0, 0, 1, 2, 3, 3, 4, 5, -2};
        for (int pos = -1; pos <= 8; pos++) {
            CHECK.due("tokenAt(" + pos + ")", x.tokenAt(pos), due[pos + 1]);
        }
        CHECK.due("tokenAt(least)", x.tokenAt(Integer.MIN_VALUE), -2);
        CHECK.due("tokenAt(greatest)", x.tokenAt(Integer.MAX_VALUE), -2);
    }

    private static void stableAtEveryPlace() {
        RelexBuffer x = Sample.filled();
        // At 3, token 1 has REACH 3 but stands behind token 0 with REACH 4.
        int[] due = {-2, 0, 0, 0, 0, 3, 3, 3, 5, 5, -2};
        for (int pos = -1; pos <= 9; pos++) {
            CHECK.due("stableCount(" + pos + ")", x.stableCount(pos), due[pos + 1]);
        }
        CHECK.due("stableCount(least)", x.stableCount(Integer.MIN_VALUE), -2);
        CHECK.due("stableCount(greatest)", x.stableCount(Integer.MAX_VALUE), -2);
        RelexBuffer all = Sample.empty(8);
        Sample.put(all, 0, 0, "bb\"\"");
        CHECK.due("stableCount(4), no token looked at the end", all.stableCount(4), 4);
    }

    private static void acceptingStartCountsOnlyWhenReached() {
        RelexBuffer x = new RelexBuffer(8, 4, 2, 2);
        x.setAccept(0, 7, 1);
        x.setEdges(0, 1, 0);
        x.setStart(1, 3);
        x.splice(0, 0, 3, 0x001);
        column(x, RelexBuffer.END, "1 3");
        column(x, RelexBuffer.KIND, "0 7");
        column(x, RelexBuffer.MODE, "0 0");
        column(x, RelexBuffer.REACH, "1 4");
        CHECK.due("endMode()", x.endMode(), 1);
    }

    private static void stateWithoutEdges() {
        RelexBuffer x = new RelexBuffer(8, 4, 2, 1);
        x.splice(0, 0, 3, 0);
        column(x, RelexBuffer.REACH, "1 2 3");
        CHECK.due("stableCount(3)", x.stableCount(3), 3);
        x.splice(0, 3, 0, 0);
        // State 1 has no edge, so it looks no further, not even at the end of the text.
        x.setEdges(0, 1, 1);
        x.setAccept(1, 2, -1);
        x.splice(0, 0, 3, 0);
        column(x, RelexBuffer.REACH, "1 2 3");
        column(x, RelexBuffer.KIND, "2 2 2");
        x.splice(0, 3, 0, 0);
        // Removed edges are none.
        x.setEdges(1, 3, 1);
        x.setEdges(1, 3, -1);
        x.splice(0, 0, 3, 0);
        column(x, RelexBuffer.REACH, "1 2 3");
        x.splice(0, 3, 0, 0);
        // One edge under the last symbol is enough to look on.
        x.setEdges(1, 2, 1);
        x.splice(0, 0, 3, 0);
        column(x, RelexBuffer.REACH, "2 3 4");
    }

    private static void longestMatchGoesBack() {
        // Kind 1 after 0, kind 2 after 0000; in between the scan hopes on.
        RelexBuffer x = new RelexBuffer(16, 5, 2, 1);
        for (int state = 0; state < 4; state++) {
            x.setEdges(state, 1, state + 1);
        }
        x.setAccept(1, 1, -1);
        x.setAccept(4, 2, -1);
        x.splice(0, 0, 7, 0);
        column(x, RelexBuffer.START, "0 4 5 6");
        column(x, RelexBuffer.KIND, "2 1 1 1");
        column(x, RelexBuffer.REACH, "4 8 8 8");
        CHECK.due("stableCount(7)", x.stableCount(7), 1);
        CHECK.due("one more", x.splice(7, 0, 1, 0), 1);
        column(x, RelexBuffer.START, "0 4");
        column(x, RelexBuffer.BIRTH, "1 2");
    }

    private static void errorReachesBeyondItsEnd() {
        RelexBuffer x = new RelexBuffer(16, 5, 2, 1);
        for (int state = 0; state < 4; state++) {
            x.setEdges(state, 1, state + 1);
        }
        x.setAccept(4, 2, -1);
        x.splice(0, 0, 5, 0x01000);
        column(x, RelexBuffer.END, "1 2 3 4 5");
        column(x, RelexBuffer.KIND, "0 0 0 0 0");
        column(x, RelexBuffer.REACH, "4 4 4 4 6");
        CHECK.due("stableCount(3)", x.stableCount(3), 0);
        CHECK.due("stableCount(4)", x.stableCount(4), 4);
        CHECK.due("stableCount(5)", x.stableCount(5), 4);
    }

    private static void modesAfterTokens() {
        RelexBuffer x = Sample.empty(16);
        String[] texts = {"a", "\"", "\"a", "\"a\"", "\"\"\"", "b\"b", " "};
        int[] due = {0, 1, 1, 0, 1, 1, 0};
        for (int k = 0; k < texts.length; k++) {
            Sample.put(x, 0, x.length(), texts[k]);
            CHECK.due("endMode() of " + texts[k], x.endMode(), due[k]);
        }
        // An error in a mode stays in it, whatever the state where the scan stopped.
        RelexBuffer y = new RelexBuffer(16, 4, 2, 4);
        y.setEdges(0, 1, 1);
        y.setAccept(1, 1, 3);
        y.setStart(3, 2);
        y.splice(0, 0, 3, 0x110);
        column(y, RelexBuffer.MODE, "0 3 3");
        CHECK.due("endMode()", y.endMode(), 3);
    }

    private static void fullOfTokens() {
        RelexBuffer x = new RelexBuffer(64, 16, 8, 4);
        for (int k = 0; k < 8; k++) {
            CHECK.due("eight more", x.splice(x.length(), 0, 8, 0x77777777), 8);
        }
        CHECK.due("tokenCount()", x.tokenCount(), 64);
        CHECK.due("length()", x.length(), 64);
        CHECK.due("token(63, END)", x.token(63, RelexBuffer.END), 64);
        CHECK.due("token(63, REACH)", x.token(63, RelexBuffer.REACH), 64);
        CHECK.due("token(63, BIRTH)", x.token(63, RelexBuffer.BIRTH), 8);
        CHECK.due("token(64, END)", x.token(64, RelexBuffer.END), -2);
        CHECK.due("tokenAt(63)", x.tokenAt(63), 63);
        CHECK.due("tokenAt(64)", x.tokenAt(64), -2);
        CHECK.due("stableCount(64)", x.stableCount(64), 64);
        CHECK.due("splice(63, 1, 1, 0)", x.splice(63, 1, 1, 0), 1);
        CHECK.due("splice(64, 0, 1, 0)", x.splice(64, 0, 1, 0), -4);
    }
}
