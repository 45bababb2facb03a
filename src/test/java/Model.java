import java.util.ArrayList;
import java.util.List;

/** The document's words as a slow program of another shape than RelexBuffer, to compare it with. */
final class Model {
    static final int BAD = -2;
    static final int LOCKED = -3;
    static final int FULL = -4;

    /** One token; next is the mode after it. */
    record Token(int start, int end, int kind, int mode, int reach, int birth, int next) {
        int field(int field) {
            return new int[] {start, end, kind, mode, reach, birth}[field];
        }

        Token bornAt(int number) {
            return new Token(start, end, kind, mode, reach, number, next);
        }
    }

    final int capacity;
    final int states;
    final int alphabet;
    final int modes;
    private final Integer[][] edges;
    private final int[] kinds;
    private final int[] nextModes;
    private final int[] starts;
    private List<Integer> text = new ArrayList<>();
    private List<Token> tokens = new ArrayList<>();
    private int edits = 0;

    Model(int capacity, int states, int alphabet, int modes) {
        this.capacity = Math.max(8, Math.min(64, capacity));
        this.states = Math.max(4, Math.min(16, states));
        this.alphabet = Math.max(2, Math.min(8, alphabet));
        this.modes = Math.max(1, Math.min(4, modes));
        edges = new Integer[this.states][this.alphabet];
        kinds = new int[this.states];
        nextModes = new int[this.states];
        java.util.Arrays.fill(nextModes, -1);
        starts = new int[this.modes];
    }

    private static boolean within(long value, long size) {
        return 0 <= value && value < size;
    }

    int setEdges(int from, int mask, int to) {
        boolean good = within(from, states) && within((long) mask - 1, (1L << alphabet) - 1)
            && (to == -1 || within(to, states));
        if (!good) {
            return BAD;
        }
        if (!text.isEmpty()) {
            return LOCKED;
        }
        for (int sym = 0; sym < alphabet; sym++) {
            if ((mask >> sym) % 2 == 1) {
                edges[from][sym] = to == -1 ? null : to;
            }
        }
        return 0;
    }

    int setAccept(int state, int kind, int nextMode) {
        boolean good = within(state, states) && within(kind, 16)
            && (nextMode == -1 || within(nextMode, modes));
        if (!good) {
            return BAD;
        }
        if (!text.isEmpty()) {
            return LOCKED;
        }
        kinds[state] = kind;
        nextModes[state] = kind > 0 ? nextMode : -1;
        return 0;
    }

    int setStart(int mode, int state) {
        if (!within(mode, modes) || !within(state, states)) {
            return BAD;
        }
        if (!text.isEmpty()) {
            return LOCKED;
        }
        starts[mode] = state;
        return 0;
    }

    int edge(int state, int sym) {
        if (!within(state, states) || !within(sym, alphabet)) {
            return BAD;
        }
        return edges[state][sym] == null ? -1 : edges[state][sym];
    }

    int acceptKind(int state) {
        return within(state, states) ? kinds[state] : BAD;
    }

    int acceptMode(int state) {
        return within(state, states) ? nextModes[state] : BAD;
    }

    int start(int mode) {
        return within(mode, modes) ? starts[mode] : BAD;
    }

    int splice(int pos, int del, int n, int packed) {
        int length = text.size();
        if (pos < 0 || pos > length || del < 0 || (long) pos + del > length || n < 0 || n > 8) {
            return BAD;
        }
        List<Integer> fresh = new ArrayList<>();
        String digits = String.format("%08x", packed);
        for (int k = 0; k < n; k++) {
            int sym = Character.digit(digits.charAt(7 - k), 16);
            if (sym >= alphabet) {
                return BAD;
            }
            fresh.add(sym);
        }
        if (del == 0 && n == 0) {
            return 0;
        }
        if (length - del + n > capacity) {
            return FULL;
        }
        List<Integer> after = new ArrayList<>(text.subList(0, pos));
        after.addAll(fresh);
        after.addAll(text.subList(pos + del, length));
        text = after;
        edits++;
        List<Token> old = tokens;
        tokens = new ArrayList<>();
        int answer = 0;
        for (Token token : scan()) {
            int birth = birthOf(token, old, pos, del, n);
            tokens.add(token.bornAt(birth));
            answer += birth == edits ? 1 : 0;
        }
        return answer;
    }

    private int birthOf(Token token, List<Token> old, int pos, int del, int n) {
        for (Token was : old) {
            boolean a = token.start < pos && was.start == token.start && was.mode == token.mode
                && was.reach <= pos;
            boolean b = token.start >= pos + n && was.start == token.start - n + del
                && was.mode == token.mode;
            if (a || b) {
                return was.birth;
            }
        }
        return edits;
    }

    private List<Token> scan() {
        List<Token> list = new ArrayList<>();
        int at = 0;
        int mode = 0;
        while (at < text.size()) {
            Token token = scanOne(at, mode);
            list.add(token);
            at = token.end;
            mode = token.next;
        }
        return list;
    }

    private Token scanOne(int s, int m) {
        int length = text.size();
        int q = s;
        int state = starts[m];
        int bestEnd = -1;
        int bestState = -1;
        int looked;
        while (true) {
            if (!hasEdges(state)) {
                looked = q;
                break;
            }
            if (q == length || edges[state][text.get(q)] == null) {
                looked = q + 1;
                break;
            }
            state = edges[state][text.get(q)];
            q++;
            if (kinds[state] > 0) {
                bestEnd = q;
                bestState = state;
            }
        }
        int reach = Math.max(looked, s + 1);
        if (bestState == -1) {
            return new Token(s, s + 1, 0, m, reach, 0, m);
        }
        int next = nextModes[bestState] == -1 ? m : nextModes[bestState];
        return new Token(s, bestEnd, kinds[bestState], m, reach, 0, next);
    }

    private boolean hasEdges(int state) {
        for (Integer target : edges[state]) {
            if (target != null) {
                return true;
            }
        }
        return false;
    }

    int edits() {
        return edits;
    }

    int length() {
        return text.size();
    }

    int symbolAt(int pos) {
        return within(pos, text.size()) ? text.get(pos) : BAD;
    }

    int tokenCount() {
        return tokens.size();
    }

    int token(int i, int field) {
        return within(i, tokens.size()) && within(field, 6) ? tokens.get(i).field(field) : BAD;
    }

    int tokenAt(int pos) {
        if (!within(pos, text.size())) {
            return BAD;
        }
        int i = 0;
        while (!(tokens.get(i).start <= pos && pos < tokens.get(i).end)) {
            i++;
        }
        return i;
    }

    int stableCount(int pos) {
        if (pos < 0 || pos > text.size()) {
            return BAD;
        }
        int k = 0;
        while (k < tokens.size() && tokens.get(k).reach <= pos) {
            k++;
        }
        return k;
    }

    int endMode() {
        return tokens.isEmpty() ? 0 : tokens.get(tokens.size() - 1).next;
    }
}
