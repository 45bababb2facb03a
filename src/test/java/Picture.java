/** Everything that can be asked of a RelexBuffer, as one string: two pictures are equal if nothing has changed. */
final class Picture {
    private Picture() {
    }

    static String all(RelexBuffer x) {
        return tables(x) + text(x);
    }

    /** The tables and the sizes, the latter by the BAD answers around them. */
    static String tables(RelexBuffer x) {
        StringBuilder all = new StringBuilder();
        for (int state = -1; state <= 16; state++) {
            all.append("\nstate ").append(state).append(':');
            for (int sym = -1; sym <= 8; sym++) {
                all.append(' ').append(x.edge(state, sym));
            }
            all.append(" accepts ").append(x.acceptKind(state)).append(' ').append(x.acceptMode(state));
        }
        all.append("\nstarts:");
        for (int mode = -1; mode <= 4; mode++) {
            all.append(' ').append(x.start(mode));
        }
        return all.toString();
    }

    /** The text, the tokens with their births, and the count of splices. */
    static String text(RelexBuffer x) {
        StringBuilder all = new StringBuilder();
        all.append("\nedits ").append(x.edits()).append(" length ").append(x.length());
        all.append(" tokens ").append(x.tokenCount()).append(" end mode ").append(x.endMode());
        for (int pos = -1; pos <= 65; pos++) {
            all.append("\nat ").append(pos).append(": ").append(x.symbolAt(pos));
            all.append(' ').append(x.tokenAt(pos)).append(' ').append(x.stableCount(pos));
        }
        for (int i = -1; i <= 64; i++) {
            all.append("\ntoken ").append(i).append(':');
            for (int field = -1; field <= 6; field++) {
                all.append(' ').append(x.token(i, field));
            }
        }
        return all.toString();
    }
}
