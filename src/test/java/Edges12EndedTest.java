/** Promise 12 at its edges: just before the end, just after it, and what takes it back. */
public final class Edges12EndedTest {
    public static void main(String[] args) {
        oneIfEnded();
        elseZero();
        Check.end();
    }

    private static void oneIfEnded() {
        Check.sentence("1 if the program has ended");
        String[] pasts = {
            "tick0", "emit0 program tick0", "pause program tick0 tick0", "exit2 trap trap trap program tick0",
            "pause exit0 seq nothing loop par trap program tick0 tick0", "pause suspend5 program tick0 tick32 tick0",
        };
        for (String past : pasts) {
            ReactiveTicks x = Twins.of(past).plain;
            Check.due("after " + past, x.ended(), 1);
            x.tick(63);
            x.look(63);
            x.emitted(63);
            Check.due("still", x.ended(), 1);
            Programs.push(x, "pause exit0");
            x.program();
            Check.due("a refused program leaves it so", x.ended(), 1);
            x.discard();
            Check.due("and so does discard", x.ended(), 1);
        }
    }

    private static void elseZero() {
        Check.sentence("else 0");
        String[] pasts = {
            "", "emit0 program", "pause program tick0", "nothing loop program tick0 tick0 tick0",
            "emit0 nothing test0 program tick0", "pause emit0 nothing test0 seq program tick0 tick0",
            "tick0 restart", "tick0 nothing program", "pause suspend5 program tick0 tick32 tick32",
        };
        for (String past : pasts) {
            ReactiveTicks x = Twins.of(past).plain;
            Check.due("after " + past, x.ended(), 0);
            x.look(1);
            x.emitted(1);
            Check.due("a look ends nothing", x.ended(), 0);
        }
    }
}
