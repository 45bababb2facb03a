/**
 * A small language for the tests, over the symbols 0 'a', 1 'b', 2 '"' and 3 ' '.
 * Mode 0: a+ is kind 1, a+bb is kind 2, a quote is kind 3 and leads to mode 1.
 * Mode 1: [ab ]+ is kind 4, a quote is kind 5 and leads to mode 0.
 */
final class Sample {
    private static final String SYMBOLS = "ab\" ";

    private Sample() {
    }

    static RelexBuffer empty(int capacity) {
        RelexBuffer x = new RelexBuffer(capacity, 8, 4, 2);
        x.setEdges(0, 0b0001, 1);
        x.setEdges(1, 0b0001, 1);
        x.setEdges(1, 0b0010, 2);
        x.setEdges(2, 0b0010, 3);
        x.setEdges(0, 0b0100, 4);
        x.setEdges(5, 0b1011, 6);
        x.setEdges(6, 0b1011, 6);
        x.setEdges(5, 0b0100, 7);
        x.setAccept(1, 1, RelexBuffer.STAY);
        x.setAccept(3, 2, RelexBuffer.STAY);
        x.setAccept(4, 3, 1);
        x.setAccept(6, 4, RelexBuffer.STAY);
        x.setAccept(7, 5, 0);
        x.setStart(1, 5);
        return x;
    }

    /** The text aab"ab"a, in a buffer for 16 symbols. */
    static RelexBuffer filled() {
        RelexBuffer x = empty(16);
        put(x, 0, 0, "aab\"ab\"a");
        return x;
    }

    /** Splices a string of at most eight symbols. */
    static int put(RelexBuffer x, int pos, int del, String symbols) {
        int packed = 0;
        for (int k = 0; k < symbols.length(); k++) {
            packed |= SYMBOLS.indexOf(symbols.charAt(k)) << (4 * k);
        }
        return x.splice(pos, del, symbols.length(), packed);
    }

    static String text(RelexBuffer x) {
        StringBuilder all = new StringBuilder();
        for (int pos = 0; pos < x.length(); pos++) {
            int sym = x.symbolAt(pos);
            all.append(sym >= 0 && sym < 4 ? SYMBOLS.charAt(sym) : '?');
        }
        return all.toString();
    }

    /** The births of all tokens, such as "1 1 2". */
    static String births(RelexBuffer x) {
        return column(x, RelexBuffer.BIRTH);
    }

    /** One field of all tokens, such as "0 2 5" for their starts. */
    static String column(RelexBuffer x, int field) {
        StringBuilder all = new StringBuilder();
        for (int i = 0; i < x.tokenCount(); i++) {
            all.append(i == 0 ? "" : " ").append(x.token(i, field));
        }
        return all.toString();
    }
}
