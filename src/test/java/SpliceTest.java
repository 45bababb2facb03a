/** Promises 9 to 12: the edit, the count of edits and the text. */
public final class SpliceTest {
    private static final Check CHECK = new Check();

    public static void main(String[] args) {
        textChanges();
        packedBits();
        wrongPlaces();
        wrongSymbols();
        nothingToDo();
        full();
        orderOfCases();
        birthsBeforeTheEdit();
        birthsAfterTheEdit();
        birthNeedsTheMode();
        equalSymbolsAreFresh();
        freshCountOfADeletion();
        emptyAgain();
        manySplices();
        CHECK.end();
    }

    private static void text(RelexBuffer x, String due) {
        String got = Sample.text(x);
        CHECK.holds("text is " + due + ", got " + got, got.equals(due));
        CHECK.due("length()", x.length(), due.length());
        CHECK.due("symbolAt(-1)", x.symbolAt(-1), -2);
        CHECK.due("symbolAt(length)", x.symbolAt(due.length()), -2);
    }

    private static void births(RelexBuffer x, String due) {
        String got = Sample.births(x);
        CHECK.holds("births are " + due + ", got " + got, got.equals(due));
    }

    private static void textChanges() {
        RelexBuffer x = Sample.empty(16);
        text(x, "");
        Sample.put(x, 0, 0, "abba");
        text(x, "abba");
        Sample.put(x, 2, 0, "\" \"");
        text(x, "ab\" \"ba");
        Sample.put(x, 0, 2, "b");
        text(x, "b\" \"ba");
        Sample.put(x, 1, 3, "");
        text(x, "bba");
        Sample.put(x, 3, 0, "  ");
        text(x, "bba  ");
        Sample.put(x, 4, 1, "aaaabbbb");
        text(x, "bba aaaabbbb");
        Sample.put(x, 0, 12, "a b");
        text(x, "a b");
        Sample.put(x, 1, 1, "\"");
        text(x, "a\"b");
        CHECK.due("edits()", x.edits(), 8);
    }

    private static void packedBits() {
        RelexBuffer x = new RelexBuffer(64, 4, 8, 1);
        CHECK.due("splice(0, 0, 8, 0x76543210)", x.splice(0, 0, 8, 0x76543210), 8);
        for (int k = 0; k < 8; k++) {
            CHECK.due("symbolAt(" + k + ")", x.symbolAt(k), k);
        }
        CHECK.due("splice(8, 0, 2, 0xFFFFFF57)", x.splice(8, 0, 2, 0xFFFFFF57), 2);
        CHECK.due("symbolAt(8)", x.symbolAt(8), 7);
        CHECK.due("symbolAt(9)", x.symbolAt(9), 5);
        CHECK.due("splice(0, 1, 0, -1)", x.splice(0, 1, 0, -1), 0);
        CHECK.due("symbolAt(0)", x.symbolAt(0), 1);
        CHECK.due("splice(0, 0, 7, 0x80000000)", x.splice(0, 0, 7, Integer.MIN_VALUE), 7);
        CHECK.due("splice(0, 0, 8, 0x80000000)", x.splice(0, 0, 8, Integer.MIN_VALUE), -2);
        CHECK.due("edits()", x.edits(), 4);
    }

    private static void refused(RelexBuffer x, int due, int pos, int del, int n, int packed) {
        int edits = x.edits();
        String before = Sample.text(x);
        String births = Sample.births(x);
        CHECK.due("splice(" + pos + ", " + del + ", " + n + ", " + packed + ")", x.splice(pos, del, n, packed), due);
        CHECK.due("edits()", x.edits(), edits);
        text(x, before);
        births(x, births);
    }

    private static void wrongPlaces() {
        RelexBuffer x = Sample.filled();
        refused(x, -2, -1, 0, 1, 0);
        refused(x, -2, 9, 0, 1, 0);
        refused(x, -2, Integer.MIN_VALUE, 0, 1, 0);
        refused(x, -2, Integer.MAX_VALUE, 0, 1, 0);
        refused(x, -2, 0, -1, 1, 0);
        refused(x, -2, 0, 9, 1, 0);
        refused(x, -2, 3, 6, 1, 0);
        refused(x, -2, 8, 1, 1, 0);
        refused(x, -2, 5, Integer.MAX_VALUE, 1, 0);
        refused(x, -2, 5, Integer.MIN_VALUE, 1, 0);
        refused(x, -2, 0, 0, -1, 0);
        refused(x, -2, 0, 0, 9, 0);
        refused(x, -2, 0, 1, Integer.MAX_VALUE, 0);
        refused(x, -2, 0, 1, Integer.MIN_VALUE, 0);
        CHECK.due("splice(3, 5, 0, 0)", x.splice(3, 5, 0, 0), 1);
        text(x, "aab");
        RelexBuffer empty = Sample.empty(8);
        refused(empty, -2, 1, 0, 1, 0);
        refused(empty, -2, 0, 1, 1, 0);
    }

    private static void wrongSymbols() {
        RelexBuffer x = Sample.filled();
        refused(x, -2, 0, 0, 1, 4);
        refused(x, -2, 0, 0, 1, 15);
        refused(x, -2, 0, 0, 8, 0x40000000);
        refused(x, -2, 0, 0, 8, 0x80000000);
        refused(x, -2, 0, 0, 3, 0x040);
        CHECK.due("splice(0, 0, 2, 0x433)", x.splice(0, 0, 2, 0x433), 2);
    }

    private static void nothingToDo() {
        RelexBuffer x = Sample.filled();
        refused(x, 0, 0, 0, 0, -1);
        refused(x, 0, 4, 0, 0, 0);
        refused(x, 0, 8, 0, 0, 0);
        refused(x, -2, 9, 0, 0, 0);
        RelexBuffer packed = Sample.empty(8);
        Sample.put(packed, 0, 0, "aaaaaaaa");
        refused(packed, 0, 8, 0, 0, 0);
    }

    private static void full() {
        RelexBuffer x = Sample.empty(9);
        CHECK.due("eight symbols", Sample.put(x, 0, 0, "        "), 8);
        refused(x, -4, 0, 0, 2, 0x33);
        refused(x, -4, 8, 0, 8, 0);
        refused(x, -4, 7, 1, 3, 0x111);
        CHECK.due("to the brim", Sample.put(x, 8, 0, "b"), 1);
        refused(x, -4, 0, 0, 1, 0);
        refused(x, -4, 4, 2, 3, 0);
        CHECK.due("replaced", Sample.put(x, 4, 3, "bbb"), 3);
        text(x, "    bbb b");
        CHECK.due("all replaced", Sample.put(x, 0, 9, "bbbbbbbb"), 8);
        CHECK.due("edits()", x.edits(), 4);
    }

    private static void orderOfCases() {
        RelexBuffer x = Sample.empty(8);
        Sample.put(x, 0, 0, "bbbbbbbb");
        refused(x, -2, 0, 0, 1, 9);
        refused(x, -2, 0, 0, 9, 0);
        refused(x, -2, 9, 0, 1, 0);
        refused(x, -2, 0, 9, 1, 0);
        refused(x, -4, 0, 0, 1, 0);
    }

    private static void birthsBeforeTheEdit() {
        // Token 0 is aa with REACH 4, since it hoped for aabb.
        RelexBuffer x = Sample.filled();
        births(x, "1 1 1 1 1 1");
        CHECK.due("edit within REACH", Sample.put(x, 3, 1, " "), 6);
        text(x, "aab ab\"a");
        // Behind the edit all stand in another mode than before, so only the b at 2 is old.
        births(x, "2 1 2 2 2 2 2");
        x = Sample.filled();
        CHECK.due("edit at REACH", Sample.put(x, 4, 2, "b"), 1);
        text(x, "aab\"b\"a");
        births(x, "1 1 1 2 1 1");
        x = Sample.filled();
        CHECK.due("longer match", Sample.put(x, 3, 0, "b"), 1);
        text(x, "aabb\"ab\"a");
        births(x, "2 1 1 1 1");
    }

    private static void birthsAfterTheEdit() {
        RelexBuffer x = Sample.filled();
        CHECK.due("in front", Sample.put(x, 0, 0, " "), 1);
        births(x, "2 1 1 1 1 1 1");
        CHECK.due("removed in front", Sample.put(x, 0, 1, ""), 0);
        births(x, "1 1 1 1 1 1");
        CHECK.due("edits()", x.edits(), 3);
        CHECK.due("at the end", Sample.put(x, 8, 0, "\""), 2);
        births(x, "1 1 1 1 1 4 4");
        CHECK.due("an old token is cut in two", Sample.put(x, 5, 0, "\"\""), 4);
        text(x, "aab\"a\"\"b\"a\"");
        // The b now starts a token of its own: the old list has none that starts there.
        births(x, "1 1 1 5 5 5 5 1 4 4");
    }

    private static void birthNeedsTheMode() {
        RelexBuffer x = Sample.empty(16);
        Sample.put(x, 0, 0, "b b b");
        births(x, "1 1 1 1 1");
        CHECK.due("all in mode 1", Sample.put(x, 0, 0, "\""), 2);
        births(x, "2 2");
        CHECK.due("all in mode 0", Sample.put(x, 0, 1, ""), 5);
        births(x, "3 3 3 3 3");
        CHECK.due("two quotes", Sample.put(x, 2, 0, "\"\""), 2);
        births(x, "3 3 4 4 3 3 3");
        // With one quote removed, the rest is a single token in mode 1.
        CHECK.due("one quote", Sample.put(x, 3, 1, ""), 1);
        text(x, "b \"b b");
        births(x, "3 3 4 5");
    }

    private static void equalSymbolsAreFresh() {
        RelexBuffer x = Sample.empty(16);
        Sample.put(x, 0, 0, "bbbbbb");
        CHECK.due("the same symbols", Sample.put(x, 2, 2, "bb"), 2);
        births(x, "1 1 2 2 1 1");
        CHECK.due("the same symbol", Sample.put(x, 0, 1, "b"), 1);
        births(x, "3 1 2 2 1 1");
    }

    private static void freshCountOfADeletion() {
        RelexBuffer x = Sample.empty(16);
        Sample.put(x, 0, 0, "ba\"\"ab");
        births(x, "1 1 1 1 1 1");
        CHECK.due("two a become one token", Sample.put(x, 2, 2, ""), 1);
        text(x, "baab");
        births(x, "1 2 1");
    }

    private static void emptyAgain() {
        RelexBuffer x = Sample.filled();
        CHECK.due("all removed", x.splice(0, 8, 0, 0), 0);
        text(x, "");
        births(x, "");
        CHECK.due("edits()", x.edits(), 2);
        CHECK.due("endMode()", x.endMode(), 0);
        CHECK.due("a new text", Sample.put(x, 0, 0, "b"), 1);
        births(x, "3");
        CHECK.due("edits()", x.edits(), 3);
    }

    private static void manySplices() {
        RelexBuffer x = Sample.empty(8);
        Sample.put(x, 0, 0, "b");
        for (int number = 2; number <= 140000; number++) {
            int got = Sample.put(x, 1, x.length() - 1, "b");
            if (got != 1 || x.edits() != number || x.token(0, 5) != 1 || x.token(1, 5) != number) {
                CHECK.holds("splice " + number, false);
                return;
            }
        }
        births(x, "1 140000");
    }
}
