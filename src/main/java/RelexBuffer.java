/** A text buffer that stays cut into tokens by longest match after every edit. */
public final class RelexBuffer {
    public static final int OK = 0;
    public static final int NONE = -1;
    public static final int STAY = -1;
    public static final int BAD = -2;
    public static final int LOCKED = -3;
    public static final int FULL = -4;

    public static final int START = 0;
    public static final int END = 1;
    public static final int KIND = 2;
    public static final int MODE = 3;
    public static final int REACH = 4;
    public static final int BIRTH = 5;

    private static final int LEAST_CAPACITY = 8;
    private static final int MOST_CAPACITY = 64;
    private static final int LEAST_STATES = 4;
    private static final int MOST_STATES = 16;
    private static final int LEAST_ALPHABET = 2;
    private static final int MOST_ALPHABET = 8;
    private static final int LEAST_MODES = 1;
    private static final int MOST_MODES = 4;
    private static final int MOST_KIND = 15;
    private static final int MOST_NEW_SYMBOLS = 8;

    private static final int FIELDS = 6;
    private static final int EDGE_CELLS = MOST_STATES * MOST_ALPHABET;
    // A token has at least one symbol, so there are never more tokens than symbols.
    private static final int TOKEN_CELLS = MOST_CAPACITY * FIELDS;

    private final int capacity;
    private final int states;
    private final int alphabet;
    private final int modes;

    private final int[] edgeTarget = new int[EDGE_CELLS];
    private final int[] kindOf = new int[MOST_STATES];
    private final int[] nextModeOf = new int[MOST_STATES];
    private final int[] startOf = new int[MOST_MODES];

    private final int[] text = new int[MOST_CAPACITY];
    private final int[] tail = new int[MOST_CAPACITY];
    private int textLength = 0;

    private final int[] tokens = new int[TOKEN_CELLS];
    private int tokenTotal = 0;
    private int modeAtEnd = 0;
    private int splicesDone = 0;

    // The list before the splice, by START: births are looked up there by place.
    private final int[] oldMode = new int[MOST_CAPACITY];
    private final int[] oldReach = new int[MOST_CAPACITY];
    private final int[] oldBirth = new int[MOST_CAPACITY];

    public RelexBuffer(int capacity, int states, int alphabet, int modes) {
        this.capacity = clamp(capacity, LEAST_CAPACITY, MOST_CAPACITY);
        this.states = clamp(states, LEAST_STATES, MOST_STATES);
        this.alphabet = clamp(alphabet, LEAST_ALPHABET, MOST_ALPHABET);
        this.modes = clamp(modes, LEAST_MODES, MOST_MODES);
        for (int cell = 0; cell < EDGE_CELLS; cell++) {
            edgeTarget[cell] = NONE;
        }
        for (int state = 0; state < MOST_STATES; state++) {
            nextModeOf[state] = STAY;
        }
    }

    public int setEdges(int from, int mask, int to) {
        if (!isState(from)) {
            return BAD;
        }
        if (mask < 1 || mask > (1 << alphabet) - 1) {
            return BAD;
        }
        if (to != NONE && !isState(to)) {
            return BAD;
        }
        if (textLength != 0) {
            return LOCKED;
        }
        for (int sym = 0; sym < alphabet; sym++) {
            if ((mask & (1 << sym)) != 0) {
                edgeTarget[from * MOST_ALPHABET + sym] = to;
            }
        }
        return OK;
    }

    public int setAccept(int state, int kind, int nextMode) {
        if (!isState(state)) {
            return BAD;
        }
        if (kind < 0 || kind > MOST_KIND) {
            return BAD;
        }
        if (nextMode != STAY && !isMode(nextMode)) {
            return BAD;
        }
        if (textLength != 0) {
            return LOCKED;
        }
        kindOf[state] = kind;
        nextModeOf[state] = kind == 0 ? STAY : nextMode;
        return OK;
    }

    public int setStart(int mode, int state) {
        if (!isMode(mode)) {
            return BAD;
        }
        if (!isState(state)) {
            return BAD;
        }
        if (textLength != 0) {
            return LOCKED;
        }
        startOf[mode] = state;
        return OK;
    }

    public int edge(int state, int sym) {
        if (!isState(state) || !isSymbol(sym)) {
            return BAD;
        }
        return edgeTarget[state * MOST_ALPHABET + sym];
    }

    public int acceptKind(int state) {
        if (!isState(state)) {
            return BAD;
        }
        return kindOf[state];
    }

    public int acceptMode(int state) {
        if (!isState(state)) {
            return BAD;
        }
        return nextModeOf[state];
    }

    public int start(int mode) {
        if (!isMode(mode)) {
            return BAD;
        }
        return startOf[mode];
    }

    public int splice(int pos, int del, int n, int packed) {
        if (pos < 0 || pos > textLength) {
            return BAD;
        }
        if (del < 0 || del > textLength - pos) {
            return BAD;
        }
        if (n < 0 || n > MOST_NEW_SYMBOLS) {
            return BAD;
        }
        if (!areSymbols(n, packed)) {
            return BAD;
        }
        if (del == 0 && n == 0) {
            return 0;
        }
        if (textLength - del + n > capacity) {
            return FULL;
        }
        rememberTokens();
        replaceText(pos, del, n, packed);
        cutIntoTokens();
        splicesDone++;
        return settleBirths(pos, del, n);
    }

    public int edits() {
        return splicesDone;
    }

    public int length() {
        return textLength;
    }

    public int symbolAt(int pos) {
        if (pos < 0 || pos >= textLength) {
            return BAD;
        }
        return text[pos];
    }

    public int tokenCount() {
        return tokenTotal;
    }

    public int token(int i, int field) {
        if (i < 0 || i >= tokenTotal) {
            return BAD;
        }
        if (field < 0 || field >= FIELDS) {
            return BAD;
        }
        return tokens[i * FIELDS + field];
    }

    public int tokenAt(int pos) {
        if (pos < 0 || pos >= textLength) {
            return BAD;
        }
        // Tokens leave no gap, so the first that ends beyond pos is the one that holds it.
        for (int i = 0; i < tokenTotal; i++) {
            if (pos < tokens[i * FIELDS + END]) {
                return i;
            }
        }
        return BAD;
    }

    public int stableCount(int pos) {
        if (pos < 0 || pos > textLength) {
            return BAD;
        }
        for (int i = 0; i < tokenTotal; i++) {
            if (tokens[i * FIELDS + REACH] > pos) {
                return i;
            }
        }
        return tokenTotal;
    }

    public int endMode() {
        return modeAtEnd;
    }

    private static int clamp(int value, int least, int most) {
        if (value < least) {
            return least;
        }
        return value > most ? most : value;
    }

    private boolean isState(int state) {
        return state >= 0 && state < states;
    }

    private boolean isSymbol(int sym) {
        return sym >= 0 && sym < alphabet;
    }

    private boolean isMode(int mode) {
        return mode >= 0 && mode < modes;
    }

    private static int newSymbol(int packed, int k) {
        return (packed >>> (4 * k)) & 15;
    }

    private boolean areSymbols(int n, int packed) {
        for (int k = 0; k < n; k++) {
            int sym = newSymbol(packed, k);
            if (!isSymbol(sym)) {
                return false;
            }
        }
        return true;
    }

    private void rememberTokens() {
        for (int pos = 0; pos < MOST_CAPACITY; pos++) {
            // No mode is negative, so this matches no new token.
            oldMode[pos] = NONE;
        }
        for (int i = 0; i < tokenTotal; i++) {
            int cell = i * FIELDS;
            int from = tokens[cell + START];
            oldMode[from] = tokens[cell + MODE];
            oldReach[from] = tokens[cell + REACH];
            oldBirth[from] = tokens[cell + BIRTH];
        }
    }

    private void replaceText(int pos, int del, int n, int packed) {
        int tailLength = textLength - pos - del;
        // The tail waits aside, as its new place may overlap the old one on either side.
        for (int k = 0; k < tailLength; k++) {
            tail[k] = text[pos + del + k];
        }
        for (int k = 0; k < n; k++) {
            text[pos + k] = newSymbol(packed, k);
        }
        for (int k = 0; k < tailLength; k++) {
            text[pos + n + k] = tail[k];
        }
        textLength = pos + n + tailLength;
    }

    private void cutIntoTokens() {
        int from = 0;
        int mode = 0;
        int count = 0;
        while (count < MOST_CAPACITY && from < textLength) {
            mode = scanToken(count, from, mode);
            from = tokens[count * FIELDS + END];
            count++;
        }
        tokenTotal = count;
        modeAtEnd = mode;
    }

    /** Scans token i, all but its BIRTH, and answers the mode after it. */
    private int scanToken(int i, int from, int mode) {
        int state = startOf[mode];
        int looked = from;
        int end = from + 1;
        int kind = 0;
        int modeAfter = mode;
        for (int q = from; q <= textLength; q++) {
            // A state without edges has nothing to hope for, so it doesn't look at q.
            if (isWithoutEdges(state)) {
                break;
            }
            looked = q + 1;
            int target = targetAt(state, q);
            if (target == NONE) {
                break;
            }
            state = target;
            if (kindOf[state] != 0) {
                end = q + 1;
                kind = kindOf[state];
                modeAfter = nextModeOf[state] == STAY ? mode : nextModeOf[state];
            }
        }
        int cell = i * FIELDS;
        tokens[cell + START] = from;
        tokens[cell + END] = end;
        tokens[cell + KIND] = kind;
        tokens[cell + MODE] = mode;
        tokens[cell + REACH] = looked > from + 1 ? looked : from + 1;
        return modeAfter;
    }

    private boolean isWithoutEdges(int state) {
        for (int sym = 0; sym < alphabet; sym++) {
            if (edgeTarget[state * MOST_ALPHABET + sym] != NONE) {
                return false;
            }
        }
        return true;
    }

    private int targetAt(int state, int q) {
        if (q >= textLength) {
            return NONE;
        }
        return edgeTarget[state * MOST_ALPHABET + text[q]];
    }

    /** Gives every token its BIRTH and answers how many are fresh. */
    private int settleBirths(int pos, int del, int n) {
        int fresh = 0;
        for (int i = 0; i < tokenTotal; i++) {
            int from = tokens[i * FIELDS + START];
            int mode = tokens[i * FIELDS + MODE];
            int born = splicesDone;
            if (from < pos) {
                if (oldMode[from] == mode && oldReach[from] <= pos) {
                    born = oldBirth[from];
                }
            } else if (from >= pos + n) {
                int oldFrom = from - n + del;
                if (oldMode[oldFrom] == mode) {
                    born = oldBirth[oldFrom];
                }
            }
            tokens[i * FIELDS + BIRTH] = born;
            if (born == splicesDone) {
                fresh++;
            }
        }
        return fresh;
    }
}
