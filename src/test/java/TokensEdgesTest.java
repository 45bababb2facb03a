/** Promises 13 to 17: each sentence that names an edge has a test of its own. */
public final class TokensEdgesTest {
    private static final Check CHECK = new Check();
    private static final int BAD = RelexBuffer.BAD;
    private static final int[] FAR = {
        Integer.MIN_VALUE, Integer.MIN_VALUE + 1, -65536, -384, -65, -64, -6, -2,
        65, 66, 127, 128, 256, 384, 65536, 1 << 28, 1 << 30, Integer.MAX_VALUE - 1, Integer.MAX_VALUE
    };
    private static final String[] TEXTS = {
        "a", "b", "\"", "aab\"ab\"a", "aabbaabb", "\"ab a\"ab", "b b b b ",
        "a\"\"a\"\"a", "aaaaaaaa", "\"aaaaaaa", "aabaabaa"
    };

    public static void main(String[] args) {
        CHECK.each(
            TokensEdgesTest::countIsZeroWhenEmpty,
            TokensEdgesTest::countChangesNothing,
            TokensEdgesTest::tokenBad,
            TokensEdgesTest::tokenAnswers,
            TokensEdgesTest::tokenOfAnEmptyText,
            TokensEdgesTest::tokenChangesNothing,
            TokensEdgesTest::tokenAtBad,
            TokensEdgesTest::tokenAtAnswers,
            TokensEdgesTest::tokenAtChangesNothing,
            TokensEdgesTest::stableBad,
            TokensEdgesTest::stableIsTheGreatest,
            TokensEdgesTest::stableTokensAreNotTouched,
            TokensEdgesTest::stableCountsOnlyLeadingOnes,
            TokensEdgesTest::stableAtTheLength,
            TokensEdgesTest::stableAtZero,
            TokensEdgesTest::stableChangesNothing,
            TokensEdgesTest::endModeAnswers,
            TokensEdgesTest::endModeIsAMode,
            TokensEdgesTest::endModeChangesNothing);
    }

    private static RelexBuffer plain(String text) {
        RelexBuffer x = Sample.empty(16);
        Sample.put(x, 0, 0, text);
        return x;
    }

    /** No edges at all, so that each symbol is a token. */
    private static RelexBuffer singles(int length) {
        RelexBuffer x = new RelexBuffer(64, 4, 2, 1);
        for (int k = 0; k < length; k++) {
            x.splice(k, 0, 1, k % 2);
        }
        return x;
    }

    /** One token over the whole text. */
    private static RelexBuffer single(int length) {
        RelexBuffer x = new RelexBuffer(64, 4, 2, 1);
        x.setEdges(0, 3, 1);
        x.setEdges(1, 3, 1);
        x.setAccept(1, 15, RelexBuffer.STAY);
        for (int k = 0; k < length; k++) {
            x.splice(k, 0, 1, k % 2);
        }
        return x;
    }

    private static void countIsZeroWhenEmpty() {
        CHECK.sentence("Promise 13", "`tokenCount()` answers the number of tokens of the present text, which is 0"
            + " exactly when the text is empty.");
        for (int length = 0; length <= 64; length++) {
            CHECK.due("tokenCount(), singles", singles(length).tokenCount(), length);
            CHECK.due("tokenCount(), one token", single(length).tokenCount(), length == 0 ? 0 : 1);
        }
        RelexBuffer x = singles(64);
        for (int length = 64; length > 0; length--) {
            CHECK.due("tokenCount()", x.tokenCount(), length);
            x.splice(length / 2, 1, 0, 0);
        }
        CHECK.due("tokenCount(), empty again", x.tokenCount(), 0);
        // A token of kind 0 is a token too.
        CHECK.due("tokenCount() of b", plain("b").tokenCount(), 1);
        CHECK.due("KIND of b", plain("b").token(0, RelexBuffer.KIND), 0);
    }

    private static void countChangesNothing() {
        CHECK.sentence("Promise 13", "It changes nothing.");
        Untouched.byAsking(CHECK, (x, v) -> x.tokenCount());
    }

    private static void tokenBad() {
        CHECK.sentence("Promise 14", "`token(i, field)` answers `BAD` if `i` < 0 or `i` >= tokenCount, or if `field` is"
            + " not in 0..5.");
        for (int length : new int[] {1, 2, 7, 8, 63, 64}) {
            RelexBuffer x = singles(length);
            for (int i = -2; i <= 66; i++) {
                for (int field = -7; field <= 12; field++) {
                    boolean bad = i < 0 || i >= length || field < 0 || field > 5;
                    CHECK.holds("token(" + i + ", " + field + ") is BAD or not", (x.token(i, field) == BAD) == bad);
                }
            }
            for (int v : FAR) {
                CHECK.due("token(" + v + ", 0)", x.token(v, 0), BAD);
                CHECK.due("token(" + v + ", 5)", x.token(v, 5), BAD);
                CHECK.due("token(0, " + v + ")", x.token(0, v), BAD);
                CHECK.due("token(" + v + ", " + v + ")", x.token(v, v), BAD);
            }
        }
        // Of 64 positions there is but one token: its number, not its place, is asked for.
        CHECK.due("token(1, START), one token", single(64).token(1, RelexBuffer.START), BAD);
        CHECK.due("token(0, END), one token", single(64).token(0, RelexBuffer.END), 64);
        RelexBuffer fewer = singles(9);
        fewer.splice(0, 8, 0, 0);
        CHECK.due("token(1, START), it was there before", fewer.token(1, RelexBuffer.START), BAD);
    }

    private static void tokenAnswers() {
        CHECK.sentence("Promise 14", "Otherwise it answers the value of the field (`START`, `END`, `KIND`, `MODE`,"
            + " `REACH` or `BIRTH`) of token `i` of the present text.");
        RelexBuffer x = plain("aab\"ab\"a");
        x.splice(8, 0, 1, 3);
        String[] due = {
            "0 2 3 4 6 7 8", "2 3 4 6 7 8 9", "1 0 3 4 5 1 0", "0 0 0 1 1 0 0", "4 3 4 7 7 9 9", "1 1 1 1 1 2 2"
        };
        for (int field = 0; field <= 5; field++) {
            CHECK.due("field " + field, Sample.column(x, field), due[field]);
        }
        RelexBuffer full = singles(64);
        for (int i = 0; i < 64; i++) {
            CHECK.due("START of " + i, full.token(i, RelexBuffer.START), i);
            CHECK.due("END of " + i, full.token(i, RelexBuffer.END), i + 1);
            CHECK.due("REACH of " + i, full.token(i, RelexBuffer.REACH), i + 1);
            CHECK.due("BIRTH of " + i, full.token(i, RelexBuffer.BIRTH), i + 1);
        }
    }

    private static void tokenOfAnEmptyText() {
        CHECK.sentence("Promise 14", "With an empty text every call answers `BAD`.");
        RelexBuffer again = single(5);
        again.splice(0, 5, 0, 0);
        for (RelexBuffer x : new RelexBuffer[] {Sample.empty(64), singles(0), again}) {
            for (int i = -2; i <= 66; i++) {
                for (int field = -2; field <= 7; field++) {
                    CHECK.due("token(" + i + ", " + field + ")", x.token(i, field), BAD);
                }
            }
            for (int v : FAR) {
                CHECK.due("token(" + v + ", 0)", x.token(v, 0), BAD);
                CHECK.due("token(0, " + v + ")", x.token(0, v), BAD);
            }
        }
    }

    private static void tokenChangesNothing() {
        CHECK.sentence("Promise 14", "It changes nothing.");
        Untouched.byAsking(CHECK, (x, v) -> x.token(v, 5) + x.token(0, v));
    }

    private static void tokenAtBad() {
        CHECK.sentence("Promise 15", "`tokenAt(pos)` answers `BAD` if `pos` < 0 or `pos` >= length; so with an empty"
            + " text it always answers `BAD`.");
        for (int length : new int[] {0, 1, 2, 7, 8, 63, 64}) {
            RelexBuffer one = single(length);
            RelexBuffer many = singles(length);
            for (int pos = -2; pos <= 66; pos++) {
                boolean bad = pos < 0 || pos >= length;
                CHECK.due("tokenAt(" + pos + "), one token", one.tokenAt(pos), bad ? BAD : 0);
                CHECK.due("tokenAt(" + pos + "), singles", many.tokenAt(pos), bad ? BAD : pos);
            }
            for (int v : FAR) {
                CHECK.due("tokenAt(" + v + ")", one.tokenAt(v), BAD);
                CHECK.due("tokenAt(" + v + ")", many.tokenAt(v), BAD);
            }
        }
        RelexBuffer again = single(5);
        again.splice(0, 5, 0, 0);
        for (int pos = -2; pos <= 66; pos++) {
            CHECK.due("tokenAt(" + pos + "), empty again", again.tokenAt(pos), BAD);
        }
    }

    private static void tokenAtAnswers() {
        CHECK.sentence("Promise 15", "Otherwise it answers the number i of the token with START <= pos < END.");
        for (String text : TEXTS) {
            RelexBuffer x = plain(text);
            for (int i = 0; i < x.tokenCount(); i++) {
                int last = x.token(i, RelexBuffer.END) - 1;
                CHECK.due("tokenAt its START", x.tokenAt(x.token(i, RelexBuffer.START)), i);
                CHECK.due("tokenAt its last symbol", x.tokenAt(last), i);
                CHECK.due("tokenAt its END", x.tokenAt(last + 1), i + 1 < x.tokenCount() ? i + 1 : BAD);
            }
        }
        RelexBuffer x = plain("aab\"ab\"a");
        int[] due = {0, 0, 1, 2, 3, 3, 4, 5};
        for (int pos = 0; pos < 8; pos++) {
            CHECK.due("tokenAt(" + pos + ")", x.tokenAt(pos), due[pos]);
        }
    }

    private static void tokenAtChangesNothing() {
        CHECK.sentence("Promise 15", "It changes nothing.");
        Untouched.byAsking(CHECK, (x, v) -> x.tokenAt(v));
    }

    private static void stableBad() {
        CHECK.sentence("Promise 16", "`stableCount(pos)` answers `BAD` if `pos` < 0 or `pos` > length.");
        for (int length : new int[] {0, 1, 2, 7, 8, 63, 64}) {
            RelexBuffer x = singles(length);
            for (int pos = -2; pos <= 66; pos++) {
                int due = pos < 0 || pos > length ? BAD : pos;
                CHECK.due("stableCount(" + pos + "), length " + length, x.stableCount(pos), due);
            }
            for (int v : FAR) {
                CHECK.due("stableCount(" + v + "), length " + length, x.stableCount(v), BAD);
            }
        }
    }

    private static void stableIsTheGreatest() {
        CHECK.sentence("Promise 16", "Otherwise it answers the greatest k, 0 <= k <= tokenCount, such that each of the"
            + " tokens 0..k-1 has REACH <= pos.");
        for (String text : TEXTS) {
            RelexBuffer x = plain(text);
            for (int pos = 0; pos <= text.length(); pos++) {
                int k = x.stableCount(pos);
                CHECK.holds("0 <= k <= tokenCount", k >= 0 && k <= x.tokenCount());
                for (int i = 0; i < k; i++) {
                    CHECK.holds("token " + i + " has REACH <= " + pos, x.token(i, RelexBuffer.REACH) <= pos);
                }
                CHECK.holds("k + 1 are too many at " + pos,
                    k == x.tokenCount() || x.token(k, RelexBuffer.REACH) > pos);
            }
        }
        RelexBuffer x = plain("aab\"ab\"a");
        int[] due = {0, 0, 0, 0, 3, 3, 3, 5, 5};
        for (int pos = 0; pos <= 8; pos++) {
            CHECK.due("stableCount(" + pos + ")", x.stableCount(pos), due[pos]);
        }
        CHECK.due("stableCount(64), all 64 tokens", singles(64).stableCount(64), 64);
    }

    private static void stableTokensAreNotTouched() {
        CHECK.sentence("Promise 16", "This is the number of leading tokens that an edit at `pos` cannot touch.");
        String[] pieces = {"", "a", "b", "\"", " ", "bb", "\"\""};
        for (String text : TEXTS) {
            for (int pos = 0; pos <= text.length(); pos++) {
                for (int del = 0; del <= text.length() - pos; del++) {
                    for (String piece : pieces) {
                        RelexBuffer old = plain(text);
                        RelexBuffer x = plain(text);
                        Sample.put(x, pos, del, piece);
                        for (int i = 0; i < old.stableCount(pos); i++) {
                            for (int field = 0; field <= 5; field++) {
                                CHECK.due("field " + field + " of " + i, x.token(i, field), old.token(i, field));
                            }
                        }
                    }
                }
            }
        }
    }

    private static void stableCountsOnlyLeadingOnes() {
        CHECK.sentence("Promise 16", "A later token with REACH <= pos does not count if some token before it has"
            + " REACH > pos.");
        RelexBuffer x = plain("baab\"ab");
        CHECK.due("the REACHes", Sample.column(x, RelexBuffer.REACH), "1 5 4 5 8");
        CHECK.due("stableCount(4), token 2 stands behind token 1", x.stableCount(4), 1);
        CHECK.due("stableCount(5)", x.stableCount(5), 4);
        // The first symbol looks as far as the end, in the hope for a match that never comes.
        RelexBuffer far = new RelexBuffer(8, 4, 2, 1);
        far.setEdges(0, 1, 1);
        far.setEdges(1, 2, 1);
        far.splice(0, 0, 8, 0x11111110);
        CHECK.due("the REACHes", Sample.column(far, RelexBuffer.REACH), "9 2 3 4 5 6 7 8");
        for (int pos = 0; pos <= 8; pos++) {
            CHECK.due("stableCount(" + pos + ")", far.stableCount(pos), 0);
        }
    }

    private static void stableAtTheLength() {
        CHECK.sentence("Promise 16", "`pos` == length is allowed; a token with REACH equal to length + 1 does not count"
            + " even then.");
        for (int length = 1; length <= 64; length++) {
            CHECK.due("stableCount(length), REACH is length + 1", single(length).stableCount(length), 0);
            CHECK.due("stableCount(length), REACH is length", singles(length).stableCount(length), length);
        }
        RelexBuffer x = plain("b\"\"aa");
        CHECK.due("the REACHes", Sample.column(x, RelexBuffer.REACH), "1 2 3 6");
        CHECK.due("stableCount(5)", x.stableCount(5), 3);
    }

    private static void stableAtZero() {
        CHECK.sentence("Promise 16", "`stableCount(0)` is 0, also with an empty text.");
        CHECK.due("stableCount(0), empty", Sample.empty(8).stableCount(0), 0);
        for (String text : TEXTS) {
            RelexBuffer x = plain(text);
            CHECK.due("stableCount(0) of " + text, x.stableCount(0), 0);
            x.splice(0, text.length(), 0, 0);
            CHECK.due("stableCount(0), empty again", x.stableCount(0), 0);
        }
        CHECK.due("stableCount(0), nothing is looked at", singles(3).stableCount(0), 0);
        CHECK.due("stableCount(0), full", singles(64).stableCount(0), 0);
    }

    private static void stableChangesNothing() {
        CHECK.sentence("Promise 16", "It changes nothing.");
        Untouched.byAsking(CHECK, (x, v) -> x.stableCount(v));
    }

    private static void endModeAnswers() {
        CHECK.sentence("Promise 17", "`endMode()` answers the mode after the last token of the present text, or 0 if"
            + " the text is empty.");
        RelexBuffer x = Sample.empty(16);
        CHECK.due("endMode(), empty", x.endMode(), 0);
        String[] texts = {"\"", "\"a", "\"a\"", "a\"", "b", "\"\"", "\"\"\"", "aa\"b", "\"b"};
        int[] due = {1, 1, 0, 1, 0, 0, 1, 1, 1};
        for (int k = 0; k < texts.length; k++) {
            Sample.put(x, 0, x.length(), texts[k]);
            CHECK.due("endMode() of " + texts[k], x.endMode(), due[k]);
        }
        x.splice(0, x.length(), 0, 0);
        CHECK.due("endMode(), empty again", x.endMode(), 0);
        Sample.put(x, 0, 0, "b");
        CHECK.due("endMode() of b", x.endMode(), 0);
    }

    private static void endModeIsAMode() {
        CHECK.sentence("Promise 17", "It is always a mode, never `STAY`.");
        for (int first = RelexBuffer.STAY; first < 4; first++) {
            for (int second = RelexBuffer.STAY; second < 4; second++) {
                RelexBuffer x = new RelexBuffer(8, 4, 3, 4);
                x.setEdges(0, 1, 1);
                x.setEdges(0, 2, 2);
                x.setAccept(1, 1, first);
                x.setAccept(2, 2, second);
                x.splice(0, 0, 2, 0x10);
                int after = first == RelexBuffer.STAY ? 0 : first;
                int due = second == RelexBuffer.STAY ? after : second;
                CHECK.due("endMode() after " + first + " and " + second, x.endMode(), due);
                // A token of kind 0 leaves the mode as it is.
                x.splice(2, 0, 1, 2);
                CHECK.due("endMode() after an error", x.endMode(), due);
                x.splice(0, 3, 0, 0);
                CHECK.due("endMode(), empty again", x.endMode(), 0);
            }
        }
    }

    private static void endModeChangesNothing() {
        CHECK.sentence("Promise 17", "It changes nothing.");
        Untouched.byAsking(CHECK, (x, v) -> x.endMode());
    }
}
