import java.util.ArrayList;
import java.util.List;
import java.util.function.ToIntFunction;

/** Everything that can be asked of a RelexBuffer: two pictures are equal if nothing has changed. */
final class Picture {
    /** Single questions about the tables and the sizes, the latter by the BAD answers around them. */
    private static final List<ToIntFunction<RelexBuffer>> TABLES = aboutTables();
    /** Single questions about the text, the tokens with their births, and the count of splices. */
    private static final List<ToIntFunction<RelexBuffer>> TEXT = aboutText();

    private Picture() {
    }

    static String all(RelexBuffer x) {
        return tables(x) + text(x);
    }

    static String tables(RelexBuffer x) {
        return answers(TABLES, x);
    }

    static String text(RelexBuffer x) {
        return answers(TEXT, x);
    }

    static List<ToIntFunction<RelexBuffer>> questions() {
        List<ToIntFunction<RelexBuffer>> all = new ArrayList<>(TABLES);
        all.addAll(TEXT);
        return all;
    }

    private static String answers(List<ToIntFunction<RelexBuffer>> questions, RelexBuffer x) {
        StringBuilder all = new StringBuilder();
        for (ToIntFunction<RelexBuffer> question : questions) {
            all.append(question.applyAsInt(x)).append(' ');
        }
        return all.toString();
    }

    private static List<ToIntFunction<RelexBuffer>> aboutTables() {
        List<ToIntFunction<RelexBuffer>> all = new ArrayList<>();
        for (int v = -1; v <= 16; v++) {
            int state = v;
            for (int w = -1; w <= 8; w++) {
                int sym = w;
                all.add(x -> x.edge(state, sym));
            }
            all.add(x -> x.acceptKind(state));
            all.add(x -> x.acceptMode(state));
            all.add(x -> x.start(state));
        }
        return all;
    }

    private static List<ToIntFunction<RelexBuffer>> aboutText() {
        List<ToIntFunction<RelexBuffer>> all = new ArrayList<>();
        all.add(x -> x.edits());
        all.add(x -> x.length());
        all.add(x -> x.tokenCount());
        all.add(x -> x.endMode());
        for (int v = -1; v <= 65; v++) {
            int at = v;
            all.add(x -> x.symbolAt(at));
            all.add(x -> x.tokenAt(at));
            all.add(x -> x.stableCount(at));
            for (int w = -1; w <= 6; w++) {
                int field = w;
                all.add(x -> x.token(at, field));
            }
        }
        return all;
    }
}
