import java.util.List;
import java.util.function.Supplier;
import java.util.function.ToIntBiFunction;
import java.util.function.ToIntFunction;

/** Shows that a call changes nothing: neither what can be asked at once, nor what later calls will answer. */
final class Untouched {
    private static final int[] ASKED = {
        Integer.MIN_VALUE, -65, -2, -1, 0, 1, 2, 3, 4, 5, 6, 7, 8, 9, 15, 16, 17, 63, 64, 65, 66, Integer.MAX_VALUE
    };

    private Untouched() {
    }

    /** A call with its answer that is due, on a buffer that maker builds the same each time. */
    static void by(Check check, Supplier<RelexBuffer> maker, String name, ToIntFunction<RelexBuffer> call, int due) {
        RelexBuffer x = maker.get();
        String before = Picture.all(x);
        check.due(name, call.applyAsInt(x), due);
        check.holds(name + " changes nothing", Picture.all(x).equals(before));
        goOnAlike(check, "after " + name, x, maker.get());
    }

    /** A reader, asked twice with good and wrong arguments on an empty text and on one that is not. */
    static void byAsking(Check check, ToIntBiFunction<RelexBuffer, Integer> reader) {
        List<Supplier<RelexBuffer>> makers = List.of(Sample::filled, () -> Sample.empty(8));
        for (Supplier<RelexBuffer> maker : makers) {
            RelexBuffer x = maker.get();
            for (int v : ASKED) {
                int first = reader.applyAsInt(x, v);
                check.due("the reader with " + v + " once more", reader.applyAsInt(x, v), first);
            }
            check.holds("the reader has changed nothing", Picture.all(x).equals(Picture.all(maker.get())));
            goOnAlike(check, "after the reader", x, maker.get());
        }
    }

    /** A trace that can't be asked for may still show in later splices and tables. */
    static void goOnAlike(Check check, String when, RelexBuffer x, RelexBuffer twin) {
        int[][] splices = {{0, 1, 1, 1}, {1, 1, 0, 0}, {0, 0, 2, 0x10}, {2, 1, 3, 0x011}, {0, 0, 1, 0}};
        for (int[] s : splices) {
            check.due(when + ", splice", x.splice(s[0], s[1], s[2], s[3]), twin.splice(s[0], s[1], s[2], s[3]));
            check.holds(when + ", the splices go on alike", Picture.text(x).equals(Picture.text(twin)));
        }
        x.splice(0, x.length(), 0, 0);
        twin.splice(0, twin.length(), 0, 0);
        check.due(when + ", setEdges", x.setEdges(1, 3, 2), twin.setEdges(1, 3, 2));
        check.due(when + ", setAccept", x.setAccept(2, 14, 0), twin.setAccept(2, 14, 0));
        check.due(when + ", setStart", x.setStart(0, 1), twin.setStart(0, 1));
        check.due(when + ", a new text", x.splice(0, 0, 6, 0x010010), twin.splice(0, 0, 6, 0x010010));
        check.holds(when + ", all goes on alike", Picture.all(x).equals(Picture.all(twin)));
    }
}
