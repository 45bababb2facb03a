/** Promises 9 to 12: each sentence that names an edge has a test of its own. */
public final class SpliceEdgesTest {
    private static final Check CHECK = new Check();
    private static final int BAD = RelexBuffer.BAD;
    private static final int FULL = RelexBuffer.FULL;
    private static final int[] FAR = {
        Integer.MIN_VALUE, Integer.MIN_VALUE + 1, -65536, -65, -64, -9, -8, -2,
        65, 72, 127, 128, 256, 65536, 1 << 30, Integer.MAX_VALUE - 8, Integer.MAX_VALUE - 1, Integer.MAX_VALUE
    };
    private static final String[] TEXTS = {
        "", "a", "b", "\"", "aab\"ab\"a", "aabbaabb", "\"ab a\"ab", "b b b b ",
        "a\"\"a\"\"a", "aaaaaaaa", "\"aaaaaaa", "aabaabaa"
    };
    private static final String[] PIECES = {"", "a", "b", "\"", " ", "bb", "\"\"", "a\"", "\"b", "bab"};

    public static void main(String[] args) {
        CHECK.each(
            SpliceEdgesTest::removesAndPuts,
            SpliceEdgesTest::kthNewSymbol,
            SpliceEdgesTest::otherBitsAreIgnored,
            SpliceEdgesTest::negativePacked,
            SpliceEdgesTest::restOfTheText,
            SpliceEdgesTest::wrongPos,
            SpliceEdgesTest::wrongDel,
            SpliceEdgesTest::wrongN,
            SpliceEdgesTest::wrongSymbol,
            SpliceEdgesTest::nothingToDo,
            SpliceEdgesTest::tooLong,
            SpliceEdgesTest::executed,
            SpliceEdgesTest::lengthBefore,
            SpliceEdgesTest::fullTextCanBeSpliced,
            SpliceEdgesTest::nextNumber,
            SpliceEdgesTest::tokensOfTheNewText,
            SpliceEdgesTest::oldListJustBefore,
            SpliceEdgesTest::birthBefore,
            SpliceEdgesTest::birthBeforeSwept,
            SpliceEdgesTest::birthBehind,
            SpliceEdgesTest::birthBehindSwept,
            SpliceEdgesTest::birthFresh,
            SpliceEdgesTest::birthFreshSwept,
            SpliceEdgesTest::oldReachInOldText,
            SpliceEdgesTest::nothingElseHasToAgree,
            SpliceEdgesTest::answerCountsTheFresh,
            SpliceEdgesTest::newTextIsEmpty,
            SpliceEdgesTest::tablesAndSizesStay,
            SpliceEdgesTest::editsCounts,
            SpliceEdgesTest::editsDoesNotCount,
            SpliceEdgesTest::editsChangesNothing,
            SpliceEdgesTest::lengthFromZeroToCapacity,
            SpliceEdgesTest::lengthChangesNothing,
            SpliceEdgesTest::symbolAtBad,
            SpliceEdgesTest::symbolAtAnswers,
            SpliceEdgesTest::symbolAtChangesNothing);
    }

    private static RelexBuffer plain(int capacity, String text) {
        return filledWith(Sample.empty(capacity), text);
    }

    /** The text comes in pieces of three, so that the births of its tokens differ. */
    private static RelexBuffer filledWith(RelexBuffer x, String text) {
        for (int k = 0; k < text.length(); k += 3) {
            Sample.put(x, k, 0, text.substring(k, Math.min(k + 3, text.length())));
        }
        return x;
    }

    private static void text(RelexBuffer x, String due) {
        CHECK.due("the text", Sample.text(x), due);
        CHECK.due("length()", x.length(), due.length());
    }

    private static void births(RelexBuffer x, String due) {
        CHECK.due("the births", Sample.births(x), due);
    }

    /** A splice that is answered so and changes nothing. */
    private static void refused(String text, int due, int pos, int del, int n, int packed) {
        RelexBuffer x = plain(8, text);
        String before = Picture.all(x);
        String call = "splice(" + pos + ", " + del + ", " + n + ", " + packed + ") in [" + text + "]";
        CHECK.due(call, x.splice(pos, del, n, packed), due);
        CHECK.holds(call + " changes nothing", Picture.all(x).equals(before));
    }

    private interface OneSplice {
        void on(String text, int pos, int del, String piece);
    }

    /** Every place and every number of removed symbols, in every text, with every piece: all are executed. */
    private static void sweep(OneSplice one) {
        for (String text : TEXTS) {
            for (int pos = 0; pos <= text.length(); pos++) {
                for (int del = 0; del <= text.length() - pos; del++) {
                    for (String piece : PIECES) {
                        if (del + piece.length() > 0) {
                            one.on(text, pos, del, piece);
                        }
                    }
                }
            }
        }
    }

    private static String spliced(String text, int pos, int del, String piece) {
        return text.substring(0, pos) + piece + text.substring(pos + del);
    }

    private static void removesAndPuts() {
        CHECK.sentence("Promise 9", "it removes the `del` symbols at positions pos..pos+del-1 and puts `n` new symbols"
            + " in their place.");
        sweep((text, pos, del, piece) -> {
            RelexBuffer x = plain(16, text);
            Sample.put(x, pos, del, piece);
            text(x, spliced(text, pos, del, piece));
        });
        RelexBuffer x = plain(64, "aaaa");
        for (int k = 0; k < 7; k++) {
            Sample.put(x, 2, 0, "bbbbbbbb");
        }
        Sample.put(x, 2, 0, "    ");
        text(x, "aa    " + "b".repeat(56) + "aa");
        Sample.put(x, 1, 62, "\"");
        text(x, "a\"a");
    }

    private static void kthNewSymbol() {
        CHECK.sentence("Promise 9", "The k-th new symbol (k = 0..n-1) is `(packed >>> (4 * k)) & 15` and comes to"
            + " position pos + k");
        for (int n = 0; n <= 8; n++) {
            RelexBuffer x = new RelexBuffer(16, 4, 8, 1);
            x.splice(0, 0, 2, 0);
            CHECK.due("splice(1, 0, " + n + ", 0x10325476)", x.splice(1, 0, n, 0x10325476), n);
            CHECK.due("length()", x.length(), n + 2);
            for (int k = 0; k < n; k++) {
                CHECK.due("symbolAt(" + (1 + k) + ")", x.symbolAt(1 + k), k ^ 6);
            }
            CHECK.due("the symbol before", x.symbolAt(0), 0);
            CHECK.due("the symbol behind", x.symbolAt(n + 1), 0);
        }
    }

    private static void otherBitsAreIgnored() {
        CHECK.sentence("Promise 9", "the other bits of `packed` are ignored.");
        for (int n = 0; n < 8; n++) {
            RelexBuffer x = new RelexBuffer(16, 4, 2, 1);
            x.splice(0, 0, 1, 0);
            int others = -1 << (4 * n);
            CHECK.due("n = " + n + ", all other bits set", x.splice(0, 1, n, others | 0x11111111 & ~others), n);
            CHECK.due("length()", x.length(), n);
            for (int k = 0; k < n; k++) {
                CHECK.due("symbolAt(" + k + ")", x.symbolAt(k), 1);
            }
        }
    }

    private static void negativePacked() {
        CHECK.sentence("Promise 9", "`packed` can be any int, negative ones included.");
        RelexBuffer x = new RelexBuffer(16, 4, 8, 1);
        CHECK.due("splice(0, 0, 0, -1)", x.splice(0, 0, 0, -1), 0);
        CHECK.due("splice(0, 0, 1, -9)", x.splice(0, 0, 1, -9), 1);
        CHECK.due("symbolAt(0)", x.symbolAt(0), 7);
        CHECK.due("splice(0, 1, 7, 0x87654321)", x.splice(0, 1, 7, 0x87654321), 7);
        for (int k = 0; k < 7; k++) {
            CHECK.due("symbolAt(" + k + ")", x.symbolAt(k), k + 1);
        }
        CHECK.due("splice(0, 7, 7, least)", x.splice(0, 7, 7, Integer.MIN_VALUE), 7);
        CHECK.due("symbolAt(6)", x.symbolAt(6), 0);
        CHECK.due("splice(0, 7, 8, greatest of 7)", x.splice(0, 7, 8, 0x77777777), 8);
        CHECK.due("symbolAt(7)", x.symbolAt(7), 7);
        CHECK.due("splice(0, 8, 0, least)", x.splice(0, 8, 0, Integer.MIN_VALUE), 0);
        CHECK.due("length()", x.length(), 0);
    }

    private static void restOfTheText() {
        CHECK.sentence("Promise 9", "The text after the removed part follows the new symbols; the text before `pos`"
            + " stays.");
        for (int pos = 0; pos <= 7; pos++) {
            for (int del = 0; del <= 7 - pos; del++) {
                for (int n = 0; n <= 8; n++) {
                    RelexBuffer x = new RelexBuffer(16, 4, 8, 1);
                    x.splice(0, 0, 7, 0x7654321);
                    x.splice(pos, del, n, 0);
                    for (int at = 0; at < pos; at++) {
                        CHECK.due("before: symbolAt(" + at + ")", x.symbolAt(at), at + 1);
                    }
                    for (int at = pos + n; at < 7 - del + n; at++) {
                        CHECK.due("behind: symbolAt(" + at + ")", x.symbolAt(at), at - n + del + 1);
                    }
                    CHECK.due("length()", x.length(), 7 - del + n);
                }
            }
        }
    }

    private static void wrongPos() {
        CHECK.sentence("Promise 9", "`pos` < 0 or `pos` > length: `BAD`.");
        for (String text : TEXTS) {
            int length = text.length();
            refused(text, BAD, -1, 0, 1, 0);
            refused(text, BAD, -1, 1, 0, 0);
            refused(text, BAD, length + 1, 0, 1, 0);
            refused(text, BAD, length + 1, -1, 0, 0);
            refused(text, BAD, length + 1, 0, 0, 0);
            for (int v : FAR) {
                refused(text, BAD, v, 0, 1, 0);
                refused(text, BAD, v, -v, 0, 0);
                refused(text, BAD, v, 1 - v, 1, 0);
            }
            CHECK.holds("pos 0", plain(16, text).splice(0, 0, 1, 0) >= 0);
            CHECK.holds("pos == length", plain(16, text).splice(length, 0, 1, 0) >= 0);
        }
    }

    private static void wrongDel() {
        CHECK.sentence("Promise 9", "`del` < 0 or `del` > length - pos: `BAD`.");
        for (String text : TEXTS) {
            for (int pos = 0; pos <= text.length(); pos++) {
                int rest = text.length() - pos;
                refused(text, BAD, pos, -1, 1, 0);
                refused(text, BAD, pos, -1, 0, 0);
                refused(text, BAD, pos, rest + 1, 1, 0);
                refused(text, BAD, pos, rest + 1, 0, 0);
                CHECK.holds("del == length - pos", plain(8, text).splice(pos, rest, 0, 0) >= 0);
                for (int v : FAR) {
                    refused(text, BAD, pos, v, 1, 0);
                    refused(text, BAD, pos, v - pos, 1, 0);
                }
            }
        }
    }

    private static void wrongN() {
        CHECK.sentence("Promise 9", "`n` < 0 or `n` > 8: `BAD`.");
        for (String text : TEXTS) {
            refused(text, BAD, 0, text.length(), -1, 0);
            refused(text, BAD, 0, text.length(), 9, 0);
            refused(text, BAD, text.length(), 0, -1, 0);
            refused(text, BAD, text.length(), 0, 9, 0);
            for (int v : FAR) {
                refused(text, BAD, 0, text.length(), v, 0);
                refused(text, BAD, 0, 0, v, 0);
            }
            CHECK.holds("n == 8", plain(16, text).splice(0, 0, 8, 0) > 0);
            CHECK.holds("n == 0", plain(16, text).splice(0, text.length(), 0, 0) == 0);
        }
        // There is room for nine, and still eight are the most.
        CHECK.due("nine symbols with room for 64", Sample.empty(64).splice(0, 0, 9, 0), BAD);
    }

    private static void wrongSymbol() {
        CHECK.sentence("Promise 9", "Some of the `n` new symbols is not below alphabet: `BAD`.");
        for (int alphabet = 2; alphabet <= 8; alphabet++) {
            for (int k = 0; k < 8; k++) {
                for (int sym = 0; sym <= 15; sym++) {
                    RelexBuffer x = new RelexBuffer(8, 4, alphabet, 1);
                    String before = Picture.all(x);
                    int packed = sym << (4 * k);
                    int due = sym < alphabet ? k + 1 : BAD;
                    CHECK.due("splice(0, 0, " + (k + 1) + ", " + packed + ")", x.splice(0, 0, k + 1, packed), due);
                    CHECK.holds("it changes nothing", due >= 0 || Picture.all(x).equals(before));
                    RelexBuffer y = new RelexBuffer(8, 4, alphabet, 1);
                    CHECK.due("one of eight is " + sym, y.splice(0, 0, 8, packed), due >= 0 ? 8 : BAD);
                }
            }
        }
    }

    private static void nothingToDo() {
        CHECK.sentence("Promise 9", "`del` == 0 and `n` == 0: answers 0 and changes nothing; this is not an executed"
            + " splice.");
        for (String text : TEXTS) {
            for (int pos = 0; pos <= text.length(); pos++) {
                refused(text, 0, pos, 0, 0, 0);
                refused(text, 0, pos, 0, 0, -1);
                int at = pos;
                String call = "splice(" + pos + ", 0, 0, 4)";
                Untouched.by(CHECK, () -> plain(8, text), call, x -> x.splice(at, 0, 0, 4), 0);
            }
        }
    }

    private static void tooLong() {
        CHECK.sentence("Promise 9", "length - del + n > capacity: `FULL`.");
        for (int length = 0; length <= 8; length++) {
            String text = "aab\"b\"ab".substring(0, length);
            for (int del = 0; del <= length; del++) {
                for (int n = 8 - length + del + 1; n <= 8; n++) {
                    for (int pos = 0; pos + del <= length; pos++) {
                        refused(text, FULL, pos, del, n, 0x01010101);
                    }
                }
            }
        }
        for (int capacity = 8; capacity <= 64; capacity++) {
            RelexBuffer x = plain(capacity, "a".repeat(capacity));
            CHECK.due("capacity " + capacity + ", one too many", x.splice(capacity, 0, 1, 0), FULL);
            CHECK.due("capacity " + capacity + ", eight for seven", x.splice(0, 7, 8, 0), FULL);
            CHECK.holds("capacity " + capacity + ", eight for eight", x.splice(0, 8, 8, 0) >= 0);
        }
    }

    private static void executed() {
        CHECK.sentence("Promise 9", "Otherwise the splice is executed.");
        sweep((text, pos, del, piece) -> {
            RelexBuffer x = plain(16, text);
            int before = x.edits();
            CHECK.holds("the answer is a count", Sample.put(x, pos, del, piece) >= 0);
            CHECK.due("edits()", x.edits(), before + 1);
        });
    }

    private static void lengthBefore() {
        CHECK.sentence("Promise 9", "Here length is that before the call.");
        // The length after the call would allow these places and numbers.
        refused("aab", BAD, 4, 0, 4, 0);
        refused("aab", BAD, 0, 4, 8, 0);
        refused("", BAD, 1, 0, 8, 0);
        // The length after the call would forbid these.
        RelexBuffer x = plain(8, "aab\"b\"ab");
        CHECK.due("more removed than is left", x.splice(2, 6, 0, 0), 1);
        text(x, "aa");
        CHECK.due("pos == 3", x.splice(3, 0, 1, 0), BAD);
        CHECK.due("six more, and then no room for another six", x.splice(2, 0, 6, 0x111111), 5);
        text(x, "aabbbbbb");
    }

    private static void fullTextCanBeSpliced() {
        CHECK.sentence("Promise 9", "A new length equal to capacity is allowed, and a full text can still be spliced"
            + " as long as the new length is not greater than capacity.");
        for (int capacity = 8; capacity <= 64; capacity++) {
            RelexBuffer x = plain(capacity, "b".repeat(capacity - 8));
            CHECK.due("up to capacity " + capacity, Sample.put(x, capacity - 8, 0, "bbbbbbbb"), 8);
            CHECK.due("length()", x.length(), capacity);
            for (int del = 1; del <= 8; del++) {
                int answer = Sample.put(x, capacity - del, del, " ".repeat(del));
                CHECK.due("as many as removed, " + del, answer, del);
                CHECK.due("length()", x.length(), capacity);
            }
            CHECK.due("at the front", Sample.put(x, 0, 1, "b"), 1);
            CHECK.due("one more than removed", Sample.put(x, 3, 1, "bb"), FULL);
            CHECK.due("one less than removed", Sample.put(x, 3, 2, "b"), 1);
            CHECK.due("length()", x.length(), capacity - 1);
            CHECK.due("full again", Sample.put(x, 0, 0, "b"), 1);
            CHECK.due("one too many", Sample.put(x, 0, 0, "b"), FULL);
        }
    }

    private static void nextNumber() {
        CHECK.sentence("Promise 9", "An executed splice gets the next number (1 for the first one).");
        RelexBuffer x = Sample.empty(8);
        CHECK.due("the first", Sample.put(x, 0, 0, "b"), 1);
        births(x, "1");
        int wrong = 0;
        for (int number = 2; number <= 70000; number++) {
            Sample.put(x, 1, x.length() - 1, "b");
            boolean good = x.edits() == number && x.token(0, RelexBuffer.BIRTH) == 1
                && x.token(1, RelexBuffer.BIRTH) == number;
            wrong += good ? 0 : 1;
        }
        CHECK.due("splices with another number", wrong, 0);
        CHECK.due("a bad one", x.splice(9, 0, 1, 0), BAD);
        CHECK.due("after it", Sample.put(x, 2, 0, "b"), 1);
        births(x, "1 70000 70001");
    }

    private static void tokensOfTheNewText() {
        CHECK.sentence("Promise 9", "The text changes as described, and the token list becomes exactly that of the new"
            + " text.");
        sweep((text, pos, del, piece) -> {
            RelexBuffer x = plain(16, text);
            Sample.put(x, pos, del, piece);
            RelexBuffer whole = plain(16, spliced(text, pos, del, piece));
            for (int field = RelexBuffer.START; field <= RelexBuffer.REACH; field++) {
                CHECK.due("field " + field, Sample.column(x, field), Sample.column(whole, field));
            }
            CHECK.due("endMode()", x.endMode(), whole.endMode());
        });
    }

    /** The number of the token that starts there, or -1. */
    private static int startingAt(RelexBuffer x, int from) {
        for (int i = 0; i < x.tokenCount(); i++) {
            if (x.token(i, RelexBuffer.START) == from) {
                return i;
            }
        }
        return -1;
    }

    private static void oldListJustBefore() {
        CHECK.sentence("Promise 9", "The BIRTH of each new token, with START s and MODE m, is settled by comparing with"
            + " the old list (that just before this call)");
        RelexBuffer x = plain(16, "bbb");
        CHECK.due("all into mode 1", Sample.put(x, 0, 0, "\""), 2);
        // The list of two splices ago had these tokens; the one just before this call has not.
        CHECK.due("all back into mode 0", Sample.put(x, 0, 1, ""), 3);
        births(x, "3 3 3");
        CHECK.due("a bad call in between", x.splice(0, 4, 0, 0), BAD);
        CHECK.due("nothing to do in between", x.splice(0, 0, 0, 0), 0);
        CHECK.due("one removed", Sample.put(x, 1, 1, ""), 0);
        births(x, "3 3");
        CHECK.due("all removed", Sample.put(x, 0, 2, ""), 0);
        CHECK.due("and put again", Sample.put(x, 0, 0, "bb"), 2);
        births(x, "6 6");
        CHECK.due("one behind them", Sample.put(x, 2, 0, "b"), 1);
        births(x, "6 6 7");
    }

    private static void birthBefore() {
        CHECK.sentence("Promise 9", "(a) If s < pos and the old list has a token with START s, MODE m and"
            + " REACH <= pos, the new token has the BIRTH of that old token.");
        // Its tokens have the STARTs 0 2 3 4 6 7 and the REACHes 4 3 4 7 7 9.
        RelexBuffer x = plain(16, "aab\"ab\"a");
        births(x, "2 1 2 3 3 3");
        CHECK.due("REACH == pos", Sample.put(x, 4, 0, " "), 1);
        births(x, "2 1 2 4 3 3");
        x = plain(16, "aab\"ab\"a");
        CHECK.due("REACH == pos + 1", Sample.put(x, 3, 0, " "), 2);
        births(x, "4 1 4 2 3 3 3");
        x = plain(16, "bbbbbb");
        CHECK.due("s == pos - 1", Sample.put(x, 3, 1, "b"), 1);
        births(x, "1 1 1 3 2 2");
        x = plain(16, "aaaaaa");
        CHECK.due("the end of the text was looked at", Sample.put(x, 6, 0, "b"), 2);
        births(x, "3 3");
    }

    private static void birthBeforeSwept() {
        CHECK.sentence("Promise 9", "(a) If s < pos and the old list has a token with START s, MODE m and"
            + " REACH <= pos, the new token has the BIRTH of that old token. (swept)");
        sweep((text, pos, del, piece) -> {
            RelexBuffer old = plain(16, text);
            RelexBuffer x = plain(16, text);
            Sample.put(x, pos, del, piece);
            for (int i = 0; i < x.tokenCount() && x.token(i, RelexBuffer.START) < pos; i++) {
                int was = startingAt(old, x.token(i, RelexBuffer.START));
                boolean kept = was >= 0 && old.token(was, RelexBuffer.MODE) == x.token(i, RelexBuffer.MODE)
                    && old.token(was, RelexBuffer.REACH) <= pos;
                int due = kept ? old.token(was, RelexBuffer.BIRTH) : x.edits();
                CHECK.due("BIRTH of " + i, x.token(i, RelexBuffer.BIRTH), due);
            }
        });
    }

    private static void birthBehind() {
        CHECK.sentence("Promise 9", "(b) If s >= pos + n and the old list has a token with START s - n + del and"
            + " MODE m, the new token has the BIRTH of that old token.");
        RelexBuffer x = plain(16, "bbbbbb");
        CHECK.due("s == pos + n", Sample.put(x, 1, 1, "  "), 2);
        births(x, "1 3 3 1 2 2 2");
        CHECK.due("s == pos with n == 0", Sample.put(x, 1, 2, ""), 0);
        births(x, "1 1 2 2 2");
        CHECK.due("pos == 0 with n == 0", Sample.put(x, 0, 1, ""), 0);
        births(x, "1 2 2 2");
        x = plain(16, "b bb b");
        CHECK.due("another mode", Sample.put(x, 1, 1, "\""), 2);
        births(x, "1 3 3");
        x = plain(16, "baaaaa");
        CHECK.due("no token started there", Sample.put(x, 3, 0, "b"), 3);
        births(x, "1 3 3 3");
    }

    private static void birthBehindSwept() {
        CHECK.sentence("Promise 9", "(b) If s >= pos + n and the old list has a token with START s - n + del and"
            + " MODE m, the new token has the BIRTH of that old token. (swept)");
        sweep((text, pos, del, piece) -> {
            RelexBuffer old = plain(16, text);
            RelexBuffer x = plain(16, text);
            Sample.put(x, pos, del, piece);
            int n = piece.length();
            for (int i = x.tokenCount() - 1; i >= 0 && x.token(i, RelexBuffer.START) >= pos + n; i--) {
                int was = startingAt(old, x.token(i, RelexBuffer.START) - n + del);
                boolean kept = was >= 0 && old.token(was, RelexBuffer.MODE) == x.token(i, RelexBuffer.MODE);
                int due = kept ? old.token(was, RelexBuffer.BIRTH) : x.edits();
                CHECK.due("BIRTH of " + i, x.token(i, RelexBuffer.BIRTH), due);
            }
        });
    }

    private static void birthFresh() {
        CHECK.sentence("Promise 9", "(c) In every other case its BIRTH is the number of this splice, even if an old"
            + " token has the same place and kind, or if the new symbols are equal to the removed ones.");
        RelexBuffer x = plain(16, "bbbbbb");
        CHECK.due("equal symbols", Sample.put(x, 2, 3, "bbb"), 3);
        births(x, "1 1 3 3 3 2");
        CHECK.due("one equal symbol at the front", Sample.put(x, 0, 1, "b"), 1);
        births(x, "4 1 3 3 3 2");
        CHECK.due("one equal symbol at the end", Sample.put(x, 5, 1, "b"), 1);
        births(x, "4 1 3 3 3 5");
        x = plain(16, "aab\"ab");
        CHECK.due("the same place and kind, but looked at", Sample.put(x, 3, 1, "\""), 2);
        births(x, "3 1 3 2");
        x = plain(16, "aaabbb");
        CHECK.due("within a token", Sample.put(x, 1, 1, "a"), 1);
        births(x, "3 2");
        x = plain(16, "bbb");
        CHECK.due("a new symbol at pos + n - 1", Sample.put(x, 1, 0, "bb"), 2);
        births(x, "1 2 2 1 1");
    }

    private static void birthFreshSwept() {
        CHECK.sentence("Promise 9", "(c) In every other case its BIRTH is the number of this splice, even if an old"
            + " token has the same place and kind, or if the new symbols are equal to the removed ones. (swept)");
        sweep((text, pos, del, piece) -> {
            RelexBuffer x = plain(16, text);
            Sample.put(x, pos, del, piece);
            for (int i = 0; i < x.tokenCount(); i++) {
                int from = x.token(i, RelexBuffer.START);
                if (from >= pos && from < pos + piece.length()) {
                    CHECK.due("BIRTH of " + i, x.token(i, RelexBuffer.BIRTH), x.edits());
                }
            }
        });
    }

    private static void oldReachInOldText() {
        CHECK.sentence("Promise 9", "In (a) the REACH is that of the old token in the old text.");
        // The a hoped for bb up to the end of the old text; now it meets a quote at 2, which is not before pos either.
        RelexBuffer x = plain(16, "ab");
        CHECK.due("old REACH 3, new REACH 3, pos 2", Sample.put(x, 2, 0, "\""), 2);
        births(x, "2 1 2");
        x = plain(16, "ab\"");
        CHECK.due("old REACH 3, new REACH 3, pos 3", Sample.put(x, 3, 0, "b"), 1);
        births(x, "1 1 1 2");
        // Cut off at 2, the a looks at the end of the new text; cut off at 3, it still meets the quote.
        x = plain(16, "ab\"bbb");
        CHECK.due("old REACH 3, pos 2", x.splice(2, 4, 0, 0), 1);
        births(x, "3 1");
        x = plain(16, "ab\"bbb");
        CHECK.due("old REACH 3, pos 3", x.splice(3, 3, 0, 0), 0);
        births(x, "1 1 1");
    }

    private static void nothingElseHasToAgree() {
        CHECK.sentence("Promise 9", "Nothing beyond what (a) and (b) name has to agree.");
        RelexBuffer x = plain(16, "b\"aaa");
        births(x, "1 1 2");
        // The last token moves, so that START, END, REACH and its number are others, and it stays old.
        CHECK.due("in front", Sample.put(x, 0, 0, "bbb"), 3);
        births(x, "3 3 3 1 1 2");
        CHECK.due("token(5, REACH)", x.token(5, RelexBuffer.REACH), 9);
        CHECK.due("in front removed", Sample.put(x, 0, 4, ""), 0);
        births(x, "1 2");
        // A token before is fresh, and those between it and the edit are old.
        x = plain(16, "aabb");
        Sample.put(x, 3, 1, "\"");
        Sample.put(x, 3, 1, " ");
        births(x, "4 3 4");
        Sample.put(x, 3, 1, "a");
        births(x, "5 3 5");
    }

    private static void answerCountsTheFresh() {
        CHECK.sentence("Promise 9", "The answer is how many tokens of the new list have the number of this splice as"
            + " BIRTH (0 or more).");
        sweep((text, pos, del, piece) -> {
            RelexBuffer x = plain(16, text);
            int answer = Sample.put(x, pos, del, piece);
            int fresh = 0;
            for (int i = 0; i < x.tokenCount(); i++) {
                fresh += x.token(i, RelexBuffer.BIRTH) == x.edits() ? 1 : 0;
            }
            CHECK.due("splice at " + pos + " in " + text, answer, fresh);
        });
        CHECK.due("none fresh", plain(16, "bbb").splice(1, 1, 0, 0), 0);
        RelexBuffer all = new RelexBuffer(64, 4, 2, 1);
        for (int k = 0; k < 8; k++) {
            all.splice(0, 0, 8, 0);
        }
        all.splice(0, 56, 0, 0);
        CHECK.due("all fresh", all.splice(0, 8, 8, 0x11111111), 8);
    }

    private static void newTextIsEmpty() {
        CHECK.sentence("Promise 9", "If the new text is empty, the new list is empty and the answer is 0, but the"
            + " splice is executed and has its number; the numbering goes on from there.");
        for (String text : TEXTS) {
            RelexBuffer x = plain(8, text);
            int before = x.edits();
            int one = text.isEmpty() ? 0 : 1;
            CHECK.due("all of [" + text + "] removed", x.splice(0, text.length(), 0, -1), 0);
            CHECK.due("tokenCount()", x.tokenCount(), 0);
            CHECK.due("length()", x.length(), 0);
            CHECK.due("edits()", x.edits(), before + one);
            CHECK.due("a new text", Sample.put(x, 0, 0, "b"), 1);
            births(x, "" + (before + one + 1));
            CHECK.due("emptied again", x.splice(0, 1, 0, 0), 0);
            CHECK.due("edits()", x.edits(), before + one + 2);
        }
    }

    private static void tablesAndSizesStay() {
        CHECK.sentence("Promise 9", "The tables and the sizes do not change.");
        String tables = Picture.tables(Sample.empty(8));
        RelexBuffer x = Sample.empty(8);
        for (int round = 0; round < 40; round++) {
            x.splice(round % (x.length() + 1), 0, 1 + round % 4, 0x2103);
            x.splice(0, x.length() > 6 ? 3 : 0, 2, 0x12);
            CHECK.holds("the tables stay", Picture.tables(x).equals(tables));
            CHECK.holds("room for 8", x.splice(0, x.length(), 8, 0) >= 0);
            CHECK.due("no room for 9", x.splice(8, 0, 1, 0), FULL);
            CHECK.due("no symbol 4", x.splice(0, 1, 1, 4), BAD);
            x.splice(0, round % 9, 0, 0);
        }
    }

    private static void editsCounts() {
        CHECK.sentence("Promise 10", "`edits()` answers the number of executed splices so far.");
        RelexBuffer x = Sample.empty(8);
        for (int number = 0; number < 600; number++) {
            CHECK.due("edits()", x.edits(), number);
            int done = x.length() == 8 ? x.splice(0, 8, 0, 0) : x.splice(0, 0, 1, number % 4);
            CHECK.holds("it is executed", done >= 0);
        }
    }

    private static void editsDoesNotCount() {
        CHECK.sentence("Promise 10", "Splices answered with `BAD` or `FULL`, and those with `del` == 0 and `n` == 0,"
            + " are not counted.");
        RelexBuffer x = plain(8, "aab\"ab\"a");
        CHECK.due("edits()", x.edits(), 3);
        CHECK.due("bad pos", x.splice(9, 0, 1, 0), BAD);
        CHECK.due("edits() after a bad pos", x.edits(), 3);
        CHECK.due("bad del", x.splice(0, 9, 1, 0), BAD);
        CHECK.due("edits() after a bad del", x.edits(), 3);
        CHECK.due("bad n", x.splice(0, 0, 9, 0), BAD);
        CHECK.due("edits() after a bad n", x.edits(), 3);
        CHECK.due("bad symbol", x.splice(0, 1, 1, 4), BAD);
        CHECK.due("edits() after a bad symbol", x.edits(), 3);
        CHECK.due("full", x.splice(0, 0, 1, 0), FULL);
        CHECK.due("edits() after a full text", x.edits(), 3);
        CHECK.due("nothing to do", x.splice(0, 0, 0, 0), 0);
        CHECK.due("edits() after nothing", x.edits(), 3);
        CHECK.due("an executed one", x.splice(0, 8, 0, 0), 0);
        CHECK.due("edits() after it", x.edits(), 4);
        CHECK.due("nothing to do, empty", x.splice(0, 0, 0, 0), 0);
        CHECK.due("a table", x.setStart(0, 0), RelexBuffer.OK);
        CHECK.due("edits() after these", x.edits(), 4);
    }

    private static void editsChangesNothing() {
        CHECK.sentence("Promise 10", "It changes nothing.");
        Untouched.byAsking(CHECK, (x, v) -> x.edits());
    }

    private static void lengthFromZeroToCapacity() {
        CHECK.sentence("Promise 11", "`length()` answers the length of the text, from 0 to capacity.");
        for (int capacity : new int[] {8, 9, 63, 64}) {
            RelexBuffer x = Sample.empty(capacity);
            for (int length = 0; length < capacity; length++) {
                CHECK.due("length()", x.length(), length);
                x.splice(length / 2, 0, 1, length % 4);
            }
            CHECK.due("length(), full", x.length(), capacity);
            x.splice(0, 0, 1, 0);
            CHECK.due("length() after a refused splice", x.length(), capacity);
            for (int length = capacity; length > 0; length--) {
                CHECK.due("length()", x.length(), length);
                x.splice(length / 2, 1, 0, 0);
            }
            CHECK.due("length(), empty again", x.length(), 0);
        }
    }

    private static void lengthChangesNothing() {
        CHECK.sentence("Promise 11", "It changes nothing.");
        Untouched.byAsking(CHECK, (x, v) -> x.length());
    }

    private static void symbolAtBad() {
        CHECK.sentence("Promise 12", "`symbolAt(pos)` answers `BAD` if `pos` < 0 or `pos` >= length; so with an empty"
            + " text it always answers `BAD`.");
        RelexBuffer x = Sample.empty(64);
        for (int length = 0; length <= 64; length++) {
            for (int pos = -2; pos <= 66; pos++) {
                int due = pos < 0 || pos >= length ? BAD : 3;
                CHECK.due("symbolAt(" + pos + "), length " + length, x.symbolAt(pos), due);
            }
            for (int v : FAR) {
                CHECK.due("symbolAt(" + v + "), length " + length, x.symbolAt(v), BAD);
            }
            x.splice(0, 0, 1, 3);
        }
        x.splice(0, 64, 0, 0);
        for (int pos = -2; pos <= 66; pos++) {
            CHECK.due("symbolAt(" + pos + "), empty again", x.symbolAt(pos), BAD);
        }
    }

    private static void symbolAtAnswers() {
        CHECK.sentence("Promise 12", "Otherwise it answers the symbol at position `pos`.");
        RelexBuffer x = new RelexBuffer(64, 4, 8, 1);
        for (int pos = 0; pos < 64; pos++) {
            x.splice(pos, 0, 1, pos * 5 % 8);
        }
        for (int pos = 0; pos < 64; pos++) {
            CHECK.due("symbolAt(" + pos + ")", x.symbolAt(pos), pos * 5 % 8);
        }
    }

    private static void symbolAtChangesNothing() {
        CHECK.sentence("Promise 12", "It changes nothing.");
        Untouched.byAsking(CHECK, (x, v) -> x.symbolAt(v));
    }
}
