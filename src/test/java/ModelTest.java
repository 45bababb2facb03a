/** All promises at once: long runs of calls, right and wrong ones, compared with the model after each call. */
public final class ModelTest {
    private static final int RUNS = 700;
    private static final int CALLS = 90;
    private static final int[] ODD = {
        Integer.MIN_VALUE, Integer.MIN_VALUE + 1, -64, -9, -8, -4, -3, -2, -1, 0, 1, 2, 3, 4, 5, 7, 8, 9, 15, 16, 17,
        63, 64, 65, 127, 128, 255, 256, 257, 1 << 30, Integer.MAX_VALUE - 8, Integer.MAX_VALUE - 1, Integer.MAX_VALUE
    };

    private final Check check = new Check();
    private final int run;
    private long seed;
    private RelexBuffer x;
    private Model m;

    private ModelTest(int run) {
        this.run = run;
        this.seed = run * 7919L + 17;
    }

    public static void main(String[] args) {
        for (int run = 0; run < RUNS; run++) {
            ModelTest test = new ModelTest(run);
            test.runOne();
            if (test.check.anyWrong()) {
                test.check.end();
            }
        }
        System.out.println("all answers of " + RUNS + " runs are as due");
    }

    /** A fixed sequence that only looks disordered, so that every run of the test is the same. */
    private int next(int below) {
        seed = seed * 6364136223846793005L + 1442695040888963407L;
        return (int) ((seed >>> 33) % below);
    }

    private int odd() {
        return ODD[next(ODD.length)];
    }

    /** Mostly a value from least to most, now and then one from anywhere. */
    private int about(int least, int most) {
        return next(25) == 0 ? odd() : least + next(most - least + 1);
    }

    private void runOne() {
        int capacity = about(6, 66);
        int states = about(3, 17);
        int alphabet = about(1, 9);
        int modes = about(0, 5);
        x = new RelexBuffer(capacity, states, alphabet, modes);
        m = new Model(capacity, states, alphabet, modes);
        String sizes = "run " + run + " (" + capacity + ", " + states + ", " + alphabet + ", " + modes + ")";
        Same.everywhere(check, sizes + " new", x, m);
        loadTables(sizes);
        Same.everywhere(check, sizes + " loaded", x, m);
        for (int call = 0; call < CALLS && !check.anyWrong(); call++) {
            String when = sizes + " call " + call + " " + oneCall(sizes + " call " + call);
            Same.text(check, when, x, m);
            if (call % 5 == 0) {
                Same.everywhere(check, when, x, m);
            }
        }
        Same.everywhere(check, sizes + " at the end", x, m);
    }

    private void loadTables(String when) {
        // Few edges give errors and short looks ahead, many give long tokens.
        int edges = next(4 * m.states);
        for (int k = 0; k < edges; k++) {
            setEdges(when);
        }
        int accepts = next(m.states);
        for (int k = 0; k < accepts; k++) {
            setAccept(when);
        }
        for (int k = 0; k < m.modes; k++) {
            setStart(when);
        }
    }

    private String oneCall(String when) {
        int pick = next(20);
        if (pick == 0) {
            return setEdges(when);
        }
        if (pick == 1) {
            return setAccept(when);
        }
        if (pick == 2) {
            return setStart(when);
        }
        if (pick == 3 && next(4) == 0) {
            return splice(when, 0, m.length(), 0, odd());
        }
        if (pick == 4) {
            return splice(when, about(0, m.length()), odd(), odd(), symbols());
        }
        int pos = about(0, m.length());
        int room = pos < 0 || pos > m.length() ? 0 : m.length() - pos;
        int del = next(3) == 0 ? 0 : about(0, Math.min(room, 10));
        int n = next(6) == 0 ? 0 : about(0, 8);
        return splice(when, pos, del, n, symbols());
    }

    private int symbols() {
        int packed = 0;
        for (int k = 0; k < 8; k++) {
            packed |= next(next(12) == 0 ? 16 : m.alphabet) << (4 * k);
        }
        return packed;
    }

    private String setEdges(String when) {
        int from = about(0, m.states - 1);
        int mask = about(1, (1 << m.alphabet) - 1);
        int to = about(-1, m.states - 1);
        String call = "setEdges(" + from + ", " + mask + ", " + to + ")";
        check.due(when + ": " + call, x.setEdges(from, mask, to), m.setEdges(from, mask, to));
        return call;
    }

    private String setAccept(String when) {
        int state = about(0, m.states - 1);
        int kind = about(0, 15);
        int nextMode = about(-1, m.modes - 1);
        String call = "setAccept(" + state + ", " + kind + ", " + nextMode + ")";
        check.due(when + ": " + call, x.setAccept(state, kind, nextMode), m.setAccept(state, kind, nextMode));
        return call;
    }

    private String setStart(String when) {
        int mode = about(0, m.modes - 1);
        int state = about(0, m.states - 1);
        String call = "setStart(" + mode + ", " + state + ")";
        check.due(when + ": " + call, x.setStart(mode, state), m.setStart(mode, state));
        return call;
    }

    private String splice(String when, int pos, int del, int n, int packed) {
        String call = "splice(" + pos + ", " + del + ", " + n + ", " + packed + ")";
        check.due(when + ": " + call, x.splice(pos, del, n, packed), m.splice(pos, del, n, packed));
        return call;
    }
}
