import java.util.List;
import java.util.function.Supplier;

/** The terms: each sentence that names an edge has a test of its own. */
public final class TermsEdgesTest {
    private static final Check CHECK = new Check();
    private static final int BAD = RelexBuffer.BAD;
    private static final int[][] SIZES = {{8, 4, 2, 1}, {20, 7, 5, 3}, {64, 16, 8, 4}};

    public static void main(String[] args) {
        CHECK.each(
            TermsEdgesTest::capacityIsTheGreatestLength,
            TermsEdgesTest::ranges,
            TermsEdgesTest::edgesOfEveryStateAndSymbol,
            TermsEdgesTest::kindsAndNextModes,
            TermsEdgesTest::startOfEveryMode,
            TermsEdgesTest::tablesOnlyWhileEmpty,
            TermsEdgesTest::tablesWhenEmptyAgain,
            TermsEdgesTest::stateWithoutAnyEdge,
            TermsEdgesTest::endOfTextOrNoEdge,
            TermsEdgesTest::lastBestWins,
            TermsEdgesTest::noEdgeAtTheEndOfTheText,
            TermsEdgesTest::acceptingStart,
            TermsEdgesTest::startAndModeInEveryCase,
            TermsEdgesTest::reachIsBeyondTheStart,
            TermsEdgesTest::reachBeyondTheText,
            TermsEdgesTest::modeAfterAToken,
            TermsEdgesTest::noBest,
            TermsEdgesTest::reachBeyondTheEnd,
            TermsEdgesTest::emptyTextHasNoTokens,
            TermsEdgesTest::firstTokenAndFurtherTokens,
            TermsEdgesTest::tokensAreNumberedFromZero,
            TermsEdgesTest::splicesAreNumberedFromOne,
            TermsEdgesTest::everyTokenHasABirth,
            TermsEdgesTest::badChangesNothing,
            TermsEdgesTest::lockedChangesNothing,
            TermsEdgesTest::fullChangesNothing,
            TermsEdgesTest::readersChangeNothing,
            TermsEdgesTest::firstCaseDecides);
    }

    private static void column(RelexBuffer x, int field, String due) {
        CHECK.due("field " + field + " of the tokens", Sample.column(x, field), due);
    }

    /** States 0 to 4 in a row, each with an edge under symbol 0 to the next one; none accepts. */
    private static RelexBuffer row() {
        RelexBuffer x = new RelexBuffer(64, 8, 3, 2);
        for (int state = 0; state < 4; state++) {
            x.setEdges(state, 1, state + 1);
        }
        return x;
    }

    private static void capacityIsTheGreatestLength() {
        CHECK.sentence("Sizes", "capacity (the greatest text length)");
        for (int[] s : SIZES) {
            RelexBuffer x = new RelexBuffer(s[0], s[1], s[2], s[3]);
            for (int length = 1; length <= s[0]; length++) {
                CHECK.due("one symbol more, up to " + length, x.splice(length - 1, 0, 1, 1), 1);
                CHECK.due("length()", x.length(), length);
            }
            CHECK.due("one symbol too many", x.splice(s[0], 0, 1, 1), RelexBuffer.FULL);
            CHECK.due("length()", x.length(), s[0]);
        }
    }

    private static void ranges() {
        CHECK.sentence("Sizes", "States are 0..states-1, symbols 0..alphabet-1, modes 0..modes-1, text positions"
            + " 0..length-1.");
        for (int[] s : SIZES) {
            RelexBuffer x = new RelexBuffer(s[0], s[1], s[2], s[3]);
            x.splice(0, 0, 3, 0x101);
            for (int v = -2; v <= 66; v++) {
                CHECK.due("acceptKind(" + v + ")", x.acceptKind(v), v >= 0 && v < s[1] ? 0 : BAD);
                CHECK.due("edge(0, " + v + ")", x.edge(0, v), v >= 0 && v < s[2] ? RelexBuffer.NONE : BAD);
                CHECK.due("start(" + v + ")", x.start(v), v >= 0 && v < s[3] ? 0 : BAD);
                CHECK.due("symbolAt(" + v + ")", x.symbolAt(v), v >= 0 && v < 3 ? 1 - v % 2 : BAD);
            }
        }
    }

    private static int target(int state, int sym) {
        return (state + 2 * sym) % 17 - 1;
    }

    private static void edgesOfEveryStateAndSymbol() {
        CHECK.sentence("Tables", "Edges: for each state and symbol either a target state or none.");
        RelexBuffer x = new RelexBuffer(64, 16, 8, 4);
        for (int state = 0; state < 16; state++) {
            for (int sym = 0; sym < 8; sym++) {
                CHECK.due("setEdges", x.setEdges(state, 1 << sym, target(state, sym)), RelexBuffer.OK);
            }
        }
        for (int state = 0; state < 16; state++) {
            for (int sym = 0; sym < 8; sym++) {
                CHECK.due("edge(" + state + ", " + sym + ")", x.edge(state, sym), target(state, sym));
            }
        }
    }

    private static void kindsAndNextModes() {
        CHECK.sentence("Tables", "Acceptance: each state is either not accepting (kind 0) or accepting with a kind"
            + " 1..15 and a next mode, which is a mode or `STAY`.");
        for (int kind = 0; kind <= 15; kind++) {
            for (int next = RelexBuffer.STAY; next < 4; next++) {
                RelexBuffer x = new RelexBuffer(8, 16, 2, 4);
                x.setEdges(0, 1, 15);
                CHECK.due("setAccept(15, " + kind + ", " + next + ")", x.setAccept(15, kind, next), RelexBuffer.OK);
                x.splice(0, 0, 1, 0);
                CHECK.due("KIND for " + kind + ", " + next, x.token(0, RelexBuffer.KIND), kind);
                CHECK.due("endMode() for " + kind + ", " + next, x.endMode(), kind == 0 ? 0 : Math.max(0, next));
            }
        }
    }

    private static void startOfEveryMode() {
        CHECK.sentence("Tables", "Starts: each mode has a start state.");
        RelexBuffer x = new RelexBuffer(8, 16, 4, 4);
        for (int mode = 0; mode < 4; mode++) {
            CHECK.due("setStart", x.setStart(mode, 15 - mode), RelexBuffer.OK);
            x.setEdges(15 - mode, 1 << mode, mode);
            x.setAccept(mode, mode + 1, (mode + 1) % 4);
        }
        x.splice(0, 0, 8, 0x32103210);
        column(x, RelexBuffer.KIND, "1 2 3 4 1 2 3 4");
        column(x, RelexBuffer.MODE, "0 1 2 3 0 1 2 3");
        for (int mode = 0; mode < 4; mode++) {
            CHECK.due("start(" + mode + ")", x.start(mode), 15 - mode);
        }
    }

    private static void tablesOnlyWhileEmpty() {
        CHECK.sentence("Tables", "The tables can be changed only while the text is empty.");
        RelexBuffer x = new RelexBuffer(8, 4, 2, 2);
        CHECK.due("setEdges, empty", x.setEdges(1, 1, 1), RelexBuffer.OK);
        CHECK.due("setAccept, empty", x.setAccept(1, 1, 1), RelexBuffer.OK);
        CHECK.due("setStart, empty", x.setStart(1, 1), RelexBuffer.OK);
        String tables = Picture.tables(x);
        for (int length = 1; length <= 8; length++) {
            x.splice(0, 0, 1, 0);
            CHECK.due("setEdges, length " + length, x.setEdges(0, 3, 2), RelexBuffer.LOCKED);
            CHECK.due("setAccept, length " + length, x.setAccept(0, 2, 0), RelexBuffer.LOCKED);
            CHECK.due("setStart, length " + length, x.setStart(0, 2), RelexBuffer.LOCKED);
            CHECK.holds("the tables stay, length " + length, Picture.tables(x).equals(tables));
        }
    }

    private static void tablesWhenEmptyAgain() {
        CHECK.sentence("Tables", "This includes a text that has become empty again.");
        for (int step = 1; step <= 4; step++) {
            RelexBuffer x = new RelexBuffer(8, 4, 2, 2);
            x.splice(0, 0, 4, 0);
            while (x.length() > 0 && x.edits() < 9) {
                x.splice(0, Math.min(step, x.length()), 0, 0);
            }
            CHECK.due("setEdges", x.setEdges(0, 3, 1), RelexBuffer.OK);
            CHECK.due("setAccept", x.setAccept(1, 6, 1), RelexBuffer.OK);
            CHECK.due("setStart", x.setStart(1, 3), RelexBuffer.OK);
            CHECK.due("edge(0, 1)", x.edge(0, 1), 1);
            CHECK.due("acceptKind(1)", x.acceptKind(1), 6);
            CHECK.due("start(1)", x.start(1), 3);
            x.splice(0, 0, 2, 0);
            column(x, RelexBuffer.KIND, "6 0");
            column(x, RelexBuffer.MODE, "0 1");
        }
    }

    private static void stateWithoutAnyEdge() {
        CHECK.sentence("One token", "If the state has no edge under any symbol: stop, with looked = q.");
        RelexBuffer x = new RelexBuffer(16, 4, 8, 1);
        x.setEdges(0, 1, 1);
        x.setEdges(1, 1, 2);
        x.setAccept(2, 1, RelexBuffer.STAY);
        x.splice(0, 0, 5, 0x10000);
        column(x, RelexBuffer.REACH, "2 4 5");
        for (int sym = 0; sym < 8; sym++) {
            x.splice(0, 5, 0, 0);
            x.setEdges(2, 255, RelexBuffer.NONE);
            x.setEdges(2, 1 << sym, 3);
            x.splice(0, 0, 5, 0x10000);
            // With a single edge the state hopes on, even for a symbol that doesn't come.
            CHECK.due("REACH with an edge under " + sym, x.token(0, RelexBuffer.REACH), 3);
        }
    }

    private static void endOfTextOrNoEdge() {
        CHECK.sentence("One token", "If q == L, or the state has no edge under the symbol at q: stop, with"
            + " looked = q + 1.");
        RelexBuffer x = row();
        x.setAccept(1, 1, RelexBuffer.STAY);
        x.splice(0, 0, 6, 0x002100);
        // The first looks at the 1, which stops it; the last look at the end of the text.
        column(x, RelexBuffer.START, "0 1 2 3 4 5");
        column(x, RelexBuffer.REACH, "3 3 3 4 7 7");
        x.splice(0, 6, 1, 0);
        column(x, RelexBuffer.REACH, "2");
    }

    private static void lastBestWins() {
        CHECK.sentence("One token", "if the state now reached is accepting, best becomes (q, that state), in place"
            + " of any earlier best.");
        RelexBuffer x = row();
        x.setAccept(1, 15, 1);
        x.setAccept(2, 7, 1);
        x.setAccept(3, 1, 0);
        x.splice(0, 0, 4, 0x1000);
        column(x, RelexBuffer.END, "3 4");
        column(x, RelexBuffer.KIND, "1 0");
        column(x, RelexBuffer.MODE, "0 0");
        x.splice(2, 1, 1, 1);
        column(x, RelexBuffer.END, "2 3 4");
        column(x, RelexBuffer.KIND, "7 0 0");
        column(x, RelexBuffer.MODE, "0 1 1");
    }

    private static void noEdgeAtTheEndOfTheText() {
        CHECK.sentence("One token", "Step 1 comes before step 2 also when q == L: a state without any edge then"
            + " gives looked = L, not L + 1.");
        RelexBuffer x = row();
        x.setAccept(4, 1, RelexBuffer.STAY);
        x.splice(0, 0, 4, 0);
        column(x, RelexBuffer.REACH, "4");
        CHECK.due("stableCount(4)", x.stableCount(4), 1);
        x.splice(0, 4, 3, 0);
        column(x, RelexBuffer.REACH, "4 4 4");
        CHECK.due("stableCount(3)", x.stableCount(3), 0);
        RelexBuffer full = new RelexBuffer(8, 4, 2, 1);
        full.setEdges(0, 3, 1);
        full.splice(0, 0, 8, 0x01010101);
        column(full, RelexBuffer.REACH, "1 2 3 4 5 6 7 8");
    }

    private static void acceptingStart() {
        CHECK.sentence("One token", "A start state that is accepting counts only when it is reached again by an"
            + " edge.");
        RelexBuffer x = new RelexBuffer(16, 4, 3, 2);
        x.setAccept(0, 7, 1);
        x.setEdges(0, 1, 1);
        x.setEdges(1, 1, 0);
        x.splice(0, 0, 5, 0x11001);
        // At 0 the start state is not left, at 1 it is reached again by two edges, at 3 the mode has changed.
        column(x, RelexBuffer.KIND, "0 7 0 0");
        column(x, RelexBuffer.END, "1 3 4 5");
        column(x, RelexBuffer.MODE, "0 0 1 1");
        x.splice(0, 5, 0, 0);
        x.setEdges(0, 3, RelexBuffer.NONE);
        x.splice(0, 0, 2, 0);
        column(x, RelexBuffer.KIND, "0 0");
        column(x, RelexBuffer.MODE, "0 0");
    }

    private static void startAndModeInEveryCase() {
        CHECK.sentence("One token", "START = s and MODE = m, in every case.");
        RelexBuffer x = Sample.empty(16);
        Sample.put(x, 0, 0, "ba\"a \"bb");
        column(x, RelexBuffer.START, "0 1 2 3 5 6 7");
        column(x, RelexBuffer.MODE, "0 0 0 1 1 0 0");
        RelexBuffer errors = new RelexBuffer(8, 4, 2, 2);
        errors.setEdges(0, 1, 1);
        errors.setAccept(1, 1, 1);
        errors.setStart(1, 3);
        errors.splice(0, 0, 4, 0x1100);
        column(errors, RelexBuffer.START, "0 1 2 3");
        column(errors, RelexBuffer.MODE, "0 1 1 1");
    }

    private static void reachIsBeyondTheStart() {
        CHECK.sentence("One token", "REACH is looked, or s + 1 if that is greater.");
        RelexBuffer x = new RelexBuffer(8, 4, 2, 1);
        x.setAccept(0, 1, RelexBuffer.STAY);
        x.splice(0, 0, 8, 0);
        // The start state has no edge: nothing is looked at, and still REACH is not START.
        column(x, RelexBuffer.REACH, "1 2 3 4 5 6 7 8");
        x.splice(0, 8, 0, 0);
        x.setEdges(0, 1, 1);
        x.setEdges(1, 1, 2);
        x.splice(0, 0, 4, 0x1101);
        column(x, RelexBuffer.REACH, "1 3 3 4");
    }

    private static void reachBeyondTheText() {
        CHECK.sentence("One token", "So REACH is L + 1 when the end of the text was looked at.");
        for (int length = 1; length <= 64; length++) {
            RelexBuffer x = new RelexBuffer(64, 4, 2, 1);
            x.setEdges(0, 1, 0);
            x.setAccept(0, 1, RelexBuffer.STAY);
            for (int k = 0; k < length; k++) {
                x.splice(0, 0, 1, 0);
            }
            CHECK.due("tokenCount()", x.tokenCount(), 1);
            CHECK.due("REACH, length " + length, x.token(0, RelexBuffer.REACH), length + 1);
        }
        RelexBuffer early = row();
        early.setAccept(1, 1, RelexBuffer.STAY);
        early.splice(0, 0, 3, 0);
        // Their ends lie before the end of the text, and yet they looked at it.
        column(early, RelexBuffer.END, "1 2 3");
        column(early, RelexBuffer.REACH, "4 4 4");
    }

    private static void modeAfterAToken() {
        CHECK.sentence("One token", "If best is (e, t): END = e, KIND = the kind of t, and the mode after the token"
            + " is the next mode of t, or m if that is `STAY`.");
        RelexBuffer x = new RelexBuffer(16, 8, 4, 4);
        for (int mode = 0; mode < 4; mode++) {
            x.setStart(mode, 0);
        }
        x.setEdges(0, 1, 1);
        x.setEdges(0, 2, 2);
        x.setEdges(0, 4, 3);
        x.setEdges(1, 8, 4);
        x.setAccept(1, 3, RelexBuffer.STAY);
        x.setAccept(2, 4, 3);
        x.setAccept(3, 5, 0);
        x.splice(0, 0, 6, 0x020100);
        column(x, RelexBuffer.END, "1 2 3 4 5 6");
        column(x, RelexBuffer.KIND, "3 3 4 3 5 3");
        column(x, RelexBuffer.MODE, "0 0 0 3 3 0");
        CHECK.due("endMode()", x.endMode(), 0);
        // The scan goes on from state 1 to state 4 and stops there, but t stays state 1.
        x.splice(0, 6, 3, 0x301);
        column(x, RelexBuffer.END, "1 2 3");
        column(x, RelexBuffer.KIND, "4 3 0");
        column(x, RelexBuffer.MODE, "0 3 3");
        CHECK.due("endMode()", x.endMode(), 3);
    }

    private static void noBest() {
        CHECK.sentence("One token", "If best is none: END = s + 1, KIND = 0, and the mode after the token is m.");
        RelexBuffer x = row();
        x.setStart(1, 1);
        x.setAccept(4, 9, 1);
        x.splice(0, 0, 7, 0x0010000);
        // In mode 1 the scan starts at state 1, and the last two symbols are too few to get to state 4.
        column(x, RelexBuffer.END, "4 5 6 7");
        column(x, RelexBuffer.KIND, "9 0 0 0");
        column(x, RelexBuffer.MODE, "0 1 1 1");
        CHECK.due("endMode()", x.endMode(), 1);
        x.splice(0, 7, 3, 0);
        column(x, RelexBuffer.END, "1 2 3");
        column(x, RelexBuffer.KIND, "0 0 0");
        CHECK.due("endMode()", x.endMode(), 0);
    }

    private static void reachBeyondTheEnd() {
        CHECK.sentence("One token", "REACH is still as above and can lie beyond END.");
        RelexBuffer x = row();
        x.setAccept(4, 9, RelexBuffer.STAY);
        x.splice(0, 0, 5, 0x01000);
        column(x, RelexBuffer.END, "1 2 3 4 5");
        column(x, RelexBuffer.KIND, "0 0 0 0 0");
        column(x, RelexBuffer.REACH, "4 4 4 4 6");
    }

    private static void emptyTextHasNoTokens() {
        CHECK.sentence("The token list", "An empty text has no tokens.");
        RelexBuffer x = Sample.empty(8);
        for (int round = 0; round < 3; round++) {
            CHECK.due("tokenCount()", x.tokenCount(), 0);
            CHECK.due("token(0, START)", x.token(0, RelexBuffer.START), BAD);
            x.splice(0, 0, 1 + round, 0);
            CHECK.holds("now there are tokens", x.tokenCount() > 0);
            x.splice(0, 1 + round, 0, 0);
        }
    }

    private static int sampleModeAfter(int mode, int kind) {
        return kind == 3 ? 1 : kind == 5 ? 0 : mode;
    }

    private static void firstTokenAndFurtherTokens() {
        CHECK.sentence("The token list", "Otherwise token 0 starts at 0 in mode 0, and each further token starts at"
            + " the END of the one before, in the mode after the one before; the list is over when END == L.");
        RelexBuffer x = Sample.empty(8);
        for (int code = 0; code < 4096; code++) {
            int packed = 0;
            for (int k = 0; k < 6; k++) {
                packed |= (code >> (2 * k) & 3) << (4 * k);
            }
            x.splice(0, x.length(), 1 + code % 6, packed);
            int from = 0;
            int mode = 0;
            for (int i = 0; i < x.tokenCount(); i++) {
                CHECK.due("START of " + i, x.token(i, RelexBuffer.START), from);
                CHECK.due("MODE of " + i, x.token(i, RelexBuffer.MODE), mode);
                from = x.token(i, RelexBuffer.END);
                mode = sampleModeAfter(mode, x.token(i, RelexBuffer.KIND));
            }
            CHECK.due("END of the last", from, x.length());
        }
    }

    private static void tokensAreNumberedFromZero() {
        CHECK.sentence("The token list", "Tokens are numbered from 0.");
        RelexBuffer x = Sample.filled();
        CHECK.due("token(-1, START)", x.token(-1, RelexBuffer.START), BAD);
        CHECK.due("token(0, START)", x.token(0, RelexBuffer.START), 0);
        CHECK.due("token(1, START)", x.token(1, RelexBuffer.START), 2);
        CHECK.due("tokenAt(0)", x.tokenAt(0), 0);
        CHECK.due("tokenAt(7)", x.tokenAt(7), 5);
    }

    private static void splicesAreNumberedFromOne() {
        CHECK.sentence("BIRTH", "Executed splices are numbered 1, 2, 3, ...");
        RelexBuffer x = new RelexBuffer(8, 4, 2, 1);
        for (int number = 1; number <= 8; number++) {
            CHECK.due("splice, bad", x.splice(0, 0, 9, 0), BAD);
            CHECK.due("splice, nothing", x.splice(0, 0, 0, 0), 0);
            CHECK.due("splice " + number, x.splice(x.length(), 0, 1, 0), 1);
            CHECK.due("splice, full", x.splice(0, 0, 8, 0), RelexBuffer.FULL);
            CHECK.due("BIRTH", x.token(number - 1, RelexBuffer.BIRTH), number);
        }
        column(x, RelexBuffer.BIRTH, "1 2 3 4 5 6 7 8");
    }

    private static void everyTokenHasABirth() {
        CHECK.sentence("BIRTH", "Every token has a BIRTH, the number of an executed splice, settled as Promise 9"
            + " says.");
        RelexBuffer x = Sample.empty(16);
        for (int round = 0; round < 300; round++) {
            x.splice(round * 7 % (x.length() + 1), 0, round % 3, round * 0x31 & 0x33);
            if (x.length() > 12) {
                x.splice(round % 5, 3 + round % 6, 0, 0);
            }
            for (int i = 0; i < x.tokenCount(); i++) {
                int birth = x.token(i, RelexBuffer.BIRTH);
                CHECK.holds("BIRTH " + birth + " is the number of a splice", birth >= 1 && birth <= x.edits());
            }
        }
    }

    private static RelexBuffer brimful() {
        RelexBuffer x = Sample.empty(8);
        Sample.put(x, 0, 0, "aab\"a\"b");
        Sample.put(x, 3, 0, "b");
        return x;
    }

    /** Sixty symbols, where there is room for 64. */
    private static RelexBuffer sixty() {
        RelexBuffer x = Sample.empty(64);
        for (int k = 0; k < 15; k++) {
            Sample.put(x, 2 * k, 0, "a\"b\"");
        }
        return x;
    }

    private static void badChangesNothing() {
        CHECK.sentence("Changes", "Every call that answers `BAD`, `LOCKED` or `FULL` changes nothing. (BAD)");
        badEdges(Sample::filled);
        badEdges(() -> Sample.empty(8));
        badAccepts(Sample::filled);
        badAccepts(() -> Sample.empty(8));
        badStarts(Sample::filled);
        badStarts(() -> Sample.empty(8));
        badSplices(Sample::filled);
        badSplices(TermsEdgesTest::brimful);
        badSplices(() -> Sample.empty(8));
    }

    private static void badEdges(Supplier<RelexBuffer> maker) {
        int[][] calls = {{-1, 1, 1}, {8, 1, 1}, {0, 0, 1}, {0, -1, 1}, {0, 16, 1}, {0, 31, 1}, {0, 1, 8}, {0, 15, -2}};
        for (int[] c : calls) {
            String name = "setEdges(" + c[0] + ", " + c[1] + ", " + c[2] + ")";
            Untouched.by(CHECK, maker, name, x -> x.setEdges(c[0], c[1], c[2]), BAD);
        }
    }

    private static void badAccepts(Supplier<RelexBuffer> maker) {
        int[][] calls = {
            {-1, 1, 0}, {8, 1, 0}, {1, -1, 0}, {1, 16, 0}, {1, 1, -2}, {1, 1, 2}, {1, 0, -2}, {1, 0, 2}, {4, 16, -1}
        };
        for (int[] c : calls) {
            String name = "setAccept(" + c[0] + ", " + c[1] + ", " + c[2] + ")";
            Untouched.by(CHECK, maker, name, x -> x.setAccept(c[0], c[1], c[2]), BAD);
        }
    }

    private static void badStarts(Supplier<RelexBuffer> maker) {
        int[][] calls = {{-1, 1}, {2, 1}, {1, -1}, {1, 8}, {0, -2}, {0, 16}};
        for (int[] c : calls) {
            String name = "setStart(" + c[0] + ", " + c[1] + ")";
            Untouched.by(CHECK, maker, name, x -> x.setStart(c[0], c[1]), BAD);
        }
    }

    private static void badSplices(Supplier<RelexBuffer> maker) {
        int[][] calls = {
            {-1, 0, 1, 0}, {9, 0, 1, 0}, {0, -1, 1, 0}, {0, 9, 1, 0}, {0, 0, -1, 0}, {0, 0, 9, 0}, {0, 0, 1, 4},
            {0, 0, 8, 0x40000000}, {0, 0, 8, 0x80000000}, {0, 0, 2, 0x4F}, {0, 0, 3, 0x410}, {0, 1, 1, 4}, {3, 5, 9, 0}
        };
        for (int[] c : calls) {
            String name = "splice(" + c[0] + ", " + c[1] + ", " + c[2] + ", " + c[3] + ")";
            Untouched.by(CHECK, maker, name, x -> x.splice(c[0], c[1], c[2], c[3]), BAD);
        }
    }

    private static void lockedChangesNothing() {
        CHECK.sentence("Changes", "Every call that answers `BAD`, `LOCKED` or `FULL` changes nothing. (LOCKED)");
        List<Supplier<RelexBuffer>> makers = List.of(Sample::filled, TermsEdgesTest::brimful);
        for (Supplier<RelexBuffer> maker : makers) {
            Untouched.by(CHECK, maker, "setEdges(0, 15, 2)", x -> x.setEdges(0, 15, 2), RelexBuffer.LOCKED);
            Untouched.by(CHECK, maker, "setEdges(0, 1, NONE)", x -> x.setEdges(0, 1, -1), RelexBuffer.LOCKED);
            Untouched.by(CHECK, maker, "setAccept(1, 9, 1)", x -> x.setAccept(1, 9, 1), RelexBuffer.LOCKED);
            Untouched.by(CHECK, maker, "setAccept(1, 0, STAY)", x -> x.setAccept(1, 0, -1), RelexBuffer.LOCKED);
            Untouched.by(CHECK, maker, "setStart(0, 5)", x -> x.setStart(0, 5), RelexBuffer.LOCKED);
            Untouched.by(CHECK, maker, "setStart(1, 0)", x -> x.setStart(1, 0), RelexBuffer.LOCKED);
        }
    }

    private static void fullChangesNothing() {
        CHECK.sentence("Changes", "Every call that answers `BAD`, `LOCKED` or `FULL` changes nothing. (FULL)");
        int[][] calls = {{0, 0, 1, 1}, {8, 0, 8, 0x33333333}, {4, 2, 3, 0x111}, {1, 7, 8, 0}, {7, 1, 2, 0x22}};
        for (int[] c : calls) {
            String name = "splice(" + c[0] + ", " + c[1] + ", " + c[2] + ", " + c[3] + ")";
            Untouched.by(CHECK, TermsEdgesTest::brimful, name, x -> x.splice(c[0], c[1], c[2], c[3]), RelexBuffer.FULL);
        }
        Untouched.by(CHECK, TermsEdgesTest::sixty, "splice(60, 0, 5, 0)", x -> x.splice(60, 0, 5, 0), RelexBuffer.FULL);
        Untouched.by(CHECK, TermsEdgesTest::sixty, "splice(0, 3, 8, 0)", x -> x.splice(0, 3, 8, 0), RelexBuffer.FULL);
    }

    private static int askAll(RelexBuffer x, int v) {
        return x.edge(v, 0) + x.edge(0, v) + x.acceptKind(v) + x.acceptMode(v) + x.start(v) + x.edits() + x.length()
            + x.symbolAt(v) + x.tokenCount() + x.token(v, 0) + x.token(0, v) + x.tokenAt(v) + x.stableCount(v)
            + x.endMode();
    }

    private static void readersChangeNothing() {
        CHECK.sentence("Changes", "Only `setEdges`, `setAccept`, `setStart` and `splice` ever change anything.");
        Untouched.byAsking(CHECK, TermsEdgesTest::askAll);
    }

    private static void firstCaseDecides() {
        CHECK.sentence("Changes", "Where a promise lists cases \"in this order\", the first case that applies"
            + " decides the answer.");
        RelexBuffer x = brimful();
        CHECK.due("setEdges(8, 1, 0), BAD and LOCKED", x.setEdges(8, 1, 0), BAD);
        CHECK.due("setEdges(0, 0, 0), BAD and LOCKED", x.setEdges(0, 0, 0), BAD);
        CHECK.due("setEdges(0, 1, 8), BAD and LOCKED", x.setEdges(0, 1, 8), BAD);
        CHECK.due("setAccept(8, 1, 0), BAD and LOCKED", x.setAccept(8, 1, 0), BAD);
        CHECK.due("setAccept(0, 16, 0), BAD and LOCKED", x.setAccept(0, 16, 0), BAD);
        CHECK.due("setAccept(0, 1, 2), BAD and LOCKED", x.setAccept(0, 1, 2), BAD);
        CHECK.due("setStart(2, 0), BAD and LOCKED", x.setStart(2, 0), BAD);
        CHECK.due("setStart(0, 8), BAD and LOCKED", x.setStart(0, 8), BAD);
        CHECK.due("splice(9, 0, 1, 0), BAD and FULL", x.splice(9, 0, 1, 0), BAD);
        CHECK.due("splice(0, -1, 1, 0), BAD and FULL", x.splice(0, -1, 1, 0), BAD);
        CHECK.due("splice(0, 0, 9, 0), BAD and FULL", x.splice(0, 0, 9, 0), BAD);
        CHECK.due("splice(0, 0, 1, 4), BAD and FULL", x.splice(0, 0, 1, 4), BAD);
        CHECK.due("splice(-1, 0, 0, 0), BAD and nothing to do", x.splice(-1, 0, 0, 0), BAD);
        CHECK.due("splice(8, 0, 0, -1), nothing to do", x.splice(8, 0, 0, -1), 0);
        CHECK.due("splice(0, 0, 1, 0), FULL", x.splice(0, 0, 1, 0), RelexBuffer.FULL);
    }
}
