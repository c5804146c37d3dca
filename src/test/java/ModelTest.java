/**
 * Rows of at most 512 calls on one object, each answer beside that of the model; the rows are the
 * same in every run.
 */
public final class ModelTest {
    private static final int OBJECTS = 40000;
    private static final int[] ODD = {Integer.MIN_VALUE, -64, -1, 6, 7, 16, 31, 32, 63, 64, Integer.MAX_VALUE};

    private static long seed = 20261115L;
    private static final int[] outcomes = new int[4];

    private ReactiveTicks x;
    private Model m;
    private final StringBuilder row = new StringBuilder();
    private int signals = 6;

    public static void main(String[] args) {
        for (int i = 0; i < OBJECTS; i++) {
            ModelTest one = new ModelTest();
            one.x = new ReactiveTicks();
            one.m = new Model();
            if (i % 8 == 0) {
                one.anyCalls();
            } else {
                one.programs();
            }
        }
        System.out.println("ended, gone on, stuck, refused: " + java.util.Arrays.toString(outcomes));
        for (int count : outcomes) {
            Check.due("each outcome came often", count > OBJECTS / 10 ? 1 : 0, 1);
        }
        Check.end();
    }

    private static int pick(int below) {
        seed = seed * 6364136223846793005L + 1442695040888963407L;
        return (int) ((seed >>> 33) % below);
    }

    /** Mostly in range, now and then far from it. */
    private static int argument(int below) {
        return pick(12) == 0 ? ODD[pick(ODD.length)] : pick(below);
    }

    private void due(String call, int got, int want) {
        row.append(call).append('=').append(want).append(' ');
        if (got != want) {
            Check.due(row.toString(), got, want);
            Check.end();
        }
        Check.due(call, got, want);
    }

    private void anyCalls() {
        for (int i = 0; i < 100; i++) {
            int a = argument(4);
            int b = argument(6);
            switch (pick(16)) {
                case 0: case 1: case 2: case 3: simple(a, b); break;
                case 4: case 5: case 6: one(a, b); break;
                case 7: case 8: case 9: two(a, b); break;
                case 10: program(); break;
                case 11: due("discard", x.discard(), m.discard()); break;
                case 12: restart(); break;
                case 13: instant(argument(64)); break;
                default: due("active " + b, x.active(b), m.active(b)); break;
            }
            due("depth", x.depth(), m.depth());
        }
        askAll();
    }

    private void programs() {
        for (int i = 0; i < 2; i++) {
            signals = 1 + pick(1 + pick(6));
            putTogether(1 + pick(16));
            program();
            int ticks = 2 + pick(5);
            // After the end one tick more is looked at: it is refused.
            for (int t = 0; t < ticks; t++) {
                boolean over = m.ended() == 1;
                instant(pick(3) == 0 ? argument(64) : pick(64) & pick(64) & ((1 << signals) - 1));
                askAll();
                if (over) {
                    break;
                }
            }
            if (pick(3) == 0) {
                restart();
                askAll();
            }
        }
    }

    /** Ends with one statement on the stack, of at most so many in all; its exits may lack traps. */
    private void putTogether(int most) {
        due("discard", x.discard(), m.discard());
        // An emit after the rest makes what is found out hang on how the rest finishes.
        boolean feedback = most > 4 && pick(2) == 0;
        int left = feedback ? most - 3 : most;
        while (left > 0) {
            // Each but one of those on the stack needs a two.
            int spare = left - Math.max(m.depth() - 1, 0);
            if (m.depth() == 0 || (spare > 1 && pick(5) < 2)) {
                int[] ops = {0, 1, 1, 2, 2, 3};
                simple(ops[pick(ops.length)], pick(10) < 7 ? pick(Math.min(signals, 3)) : pick(6));
            } else if (spare > 0 && pick(2) == 0) {
                one(pick(3), pick(signals));
            } else if (m.depth() > 1) {
                two(pick(3), pick(signals));
            } else {
                one(1, 0);
            }
            left--;
        }
        if (feedback) {
            one(1, 0);
            simple(2, pick(signals));
            two(0, 0);
        }
    }

    private void simple(int op, int n) {
        due("simple " + op + " " + n, x.simple(op, n), m.simple(op, n));
    }

    private void one(int op, int s) {
        due("one " + op + " " + s, x.one(op, s), m.one(op, s));
    }

    private void two(int op, int s) {
        due("two " + op + " " + s, x.two(op, s), m.two(op, s));
    }

    private void program() {
        due("program", x.program(), m.program());
    }

    private void restart() {
        row.append("restart ");
        x.restart();
        m.restart();
    }

    private void instant(int inputs) {
        int other = argument(64);
        due("look " + other, x.look(other), m.look(other));
        due("emitted " + other, x.emitted(other), m.emitted(other));
        int want = m.tick(inputs);
        due("tick " + inputs, x.tick(inputs), want);
        outcomes[want < 0 ? 3 : want]++;
    }

    private void askAll() {
        due("depth", x.depth(), m.depth());
        due("ended", x.ended(), m.ended());
        due("instants", x.instants(), m.instants());
        for (int s = -1; s < 7; s++) {
            due("status " + s, x.status(s), m.status(s));
        }
        for (int i = -1; i < 18; i++) {
            due("active " + i, x.active(i), m.active(i));
        }
    }
}
