import java.util.List;
import java.util.function.Supplier;
import java.util.function.ToIntBiFunction;
import java.util.function.ToIntFunction;

/** Shows that a call changes nothing: neither what can be asked at once, nor what later calls will answer. */
final class Untouched {
    private static final int[] ASKED = {
        Integer.MIN_VALUE, -65, -2, -1, 0, 1, 2, 3, 4, 5, 6, 7, 8, 9, 15, 16, 17, 63, 64, 65, 66, Integer.MAX_VALUE
    };
    /** An empty text, one that ends in mode 0 and one that ends in mode 1. */
    private static final List<Supplier<RelexBuffer>> MAKERS =
        List.of(() -> Sample.empty(8), Sample::filled, Untouched::withinQuotes);

    private Untouched() {
    }

    private static RelexBuffer withinQuotes() {
        RelexBuffer x = Sample.empty(8);
        Sample.put(x, 0, 0, "aab\"a");
        Sample.put(x, 1, 0, "ab");
        return x;
    }

    /** A call with its answer that is due, on a buffer that maker builds the same each time. */
    static void by(Check check, Supplier<RelexBuffer> maker, String name, ToIntFunction<RelexBuffer> call, int due) {
        RelexBuffer x = maker.get();
        String before = Picture.all(x);
        check.due(name, call.applyAsInt(x), due);
        check.holds(name + " changes nothing", Picture.all(x).equals(before));
        goOnAlike(check, "after " + name, x, maker.get());
    }

    /** A reader, asked with good and wrong arguments. */
    static void byAsking(Check check, ToIntBiFunction<RelexBuffer, Integer> reader) {
        for (Supplier<RelexBuffer> maker : MAKERS) {
            // Each question is the first one of a new buffer, so that no other reader can hide or make a change.
            for (ToIntFunction<RelexBuffer> question : Picture.questions()) {
                RelexBuffer x = askedAll(reader, maker.get());
                check.due("a question after the reader", question.applyAsInt(x), question.applyAsInt(maker.get()));
            }
            goOnAlike(check, "after the reader", askedAll(reader, maker.get()), maker.get());
        }
    }

    private static RelexBuffer askedAll(ToIntBiFunction<RelexBuffer, Integer> reader, RelexBuffer x) {
        for (int v : ASKED) {
            reader.applyAsInt(x, v);
        }
        return x;
    }

    /** A trace that can't be asked for may still show in later splices and tables. */
    static void goOnAlike(Check check, String when, RelexBuffer x, RelexBuffer twin) {
        int[][] splices = {{0, 1, 1, 1}, {1, 1, 0, 0}, {0, 0, 2, 0x10}, {2, 1, 3, 0x011}, {0, 0, 1, 0}};
        for (int[] s : splices) {
            check.due(when + ", splice", x.splice(s[0], s[1], s[2], s[3]), twin.splice(s[0], s[1], s[2], s[3]));
            check.holds(when + ", the splices go on alike", Picture.text(x).equals(Picture.text(twin)));
        }
        x.splice(0, x.length(), 0, 0);
        twin.splice(0, twin.length(), 0, 0);
        check.due(when + ", setEdges", x.setEdges(1, 3, 2), twin.setEdges(1, 3, 2));
        check.due(when + ", setAccept", x.setAccept(2, 14, 0), twin.setAccept(2, 14, 0));
        check.due(when + ", setStart", x.setStart(0, 1), twin.setStart(0, 1));
        check.due(when + ", a new text", x.splice(0, 0, 6, 0x010010), twin.splice(0, 0, 6, 0x010010));
        check.holds(when + ", all goes on alike", Picture.all(x).equals(Picture.all(twin)));
    }
}
