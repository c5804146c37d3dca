/** "No call ever throws.", with the least and the greatest arguments in many states. */
public final class EdgesNeverThrowsTest {
    private static final int[] NUMBERS = {
        Integer.MIN_VALUE, Integer.MIN_VALUE + 1, -65536, -257, -64, -33, -32, -17, -16, -7, -6, -5, -4, -3, -2, -1,
        0, 1, 2, 3, 4, 5, 6, 7, 15, 16, 17, 31, 32, 33, 63, 64, 255, 256, 65536,
        Integer.MAX_VALUE - 1, Integer.MAX_VALUE,
    };
    private static final String[] PASTS = {
        "", "tick0", "exit2", "exit0 exit1", "pause nothing loop par suspend0 program tick0",
        "emit0 nothing test0 program tick0",
        "pause pause pause pause pause pause pause pause pause pause pause pause pause pause pause pause",
        "exit2 loop loop loop loop loop loop loop loop loop loop loop loop loop loop loop",
        "exit2 trap trap trap trap trap trap trap trap trap trap trap trap trap trap trap program tick0",
        "pause pause par pause par pause par pause par pause par pause par pause par loop program tick0 tick0",
    };

    private static int thrown = 0;

    public static void main(String[] args) {
        Check.sentence("No call ever throws.");
        for (String past : PASTS) {
            for (int a : NUMBERS) {
                everyCall(past, a);
            }
        }
        Check.due("calls that threw", thrown, 0);
        beyondTheLastCall();
        Check.end();
    }

    private static void everyCall(String past, int a) {
        for (int b : NUMBERS) {
            once(past, "simple(" + a + ", " + b + ")", x -> x.simple(a, b));
            once(past, "one(" + a + ", " + b + ")", x -> x.one(a, b));
            once(past, "two(" + a + ", " + b + ")", x -> x.two(a, b));
        }
        once(past, "tick(" + a + ")", x -> x.tick(a));
        once(past, "look(" + a + ")", x -> x.look(a));
        once(past, "emitted(" + a + ")", x -> x.emitted(a));
        once(past, "status(" + a + ")", x -> x.status(a));
        once(past, "active(" + a + ")", x -> x.active(a));
        once(past, "depth()", ReactiveTicks::depth);
        once(past, "discard()", ReactiveTicks::discard);
        once(past, "program()", ReactiveTicks::program);
        once(past, "ended()", ReactiveTicks::ended);
        once(past, "instants()", ReactiveTicks::instants);
        once(past, "restart()", x -> {
            x.restart();
            return 0;
        });
    }

    /** The call, and after it those that use what it may have left behind. */
    private static void once(String past, String what, Twins.Call call) {
        ReactiveTicks x = Twins.of(past).plain;
        try {
            call.on(x);
            x.two(1, 0);
            x.one(0, 0);
            x.program();
            x.tick(0);
            x.tick(63);
        } catch (RuntimeException | Error e) {
            thrown++;
            Check.due(what + " after " + past + " threw " + e, 1, 0);
        }
    }

    /** What such calls answer is free, but they throw no more than others. */
    private static void beyondTheLastCall() {
        ReactiveTicks x = new ReactiveTicks();
        int threw = 0;
        for (int i = 0; i < 20000; i++) {
            try {
                x.simple(i % 4, i % 3);
                x.one(i % 3, i % 6);
                x.two(i % 3, i % 6);
                x.program();
                x.tick(i);
                if (i % 7 == 0) {
                    x.discard();
                }
            } catch (RuntimeException | Error e) {
                threw++;
            }
        }
        Check.due("calls beyond the 512th that threw", threw, 0);
    }
}
