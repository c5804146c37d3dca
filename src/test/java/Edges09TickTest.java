/** One method for each sentence of promise 9 that names an edge. */
public final class Edges09TickTest {
    private static final int[] OTHER_BITS = {64, 128, 256, 65536, 1 << 30, Integer.MIN_VALUE, -64};

    public static void main(String[] args) {
        eachBit();
        otherBits();
        noneAfterTheEnd();
        whatBecomesOfIt();
        Check.end();
    }

    private static void eachBit() {
        Check.sentence("bit s for signal s");
        ReactiveTicks x = Programs.fresh("pause loop");
        for (int inputs = 0; inputs < 64; inputs++) {
            Check.due("tick(" + inputs + ")", x.tick(inputs), ReactiveTicks.GOES_ON);
            for (int s = 0; s < 6; s++) {
                Check.due("of " + inputs + ", status(" + s + ")", x.status(s), (inputs >> s) & 1);
            }
        }
        for (int s = 0; s < 6; s++) {
            ReactiveTicks test = Programs.fresh("pause nothing test" + s);
            Check.due("all but " + s, test.tick(63 & ~(1 << s)), ReactiveTicks.ENDED);
            test.restart();
            Check.due("just " + s, test.tick(1 << s), ReactiveTicks.GOES_ON);
        }
    }

    private static void otherBits() {
        Check.sentence("other bits are not looked at");
        for (int bits : OTHER_BITS) {
            ReactiveTicks x = Programs.fresh("nothing pause test0 emit3 nothing test5 par");
            Check.due("no signal, and " + bits, x.tick(bits), ReactiveTicks.GOES_ON);
            Programs.dueStatuses("no signal, and " + bits, x, "000000");
            x.restart();
            Check.due("0, and " + bits, x.tick(1 | bits), ReactiveTicks.ENDED);
            Programs.dueStatuses("0, and " + bits, x, "100000");
            x.restart();
            Check.due("5, and " + bits, x.tick(32 | bits), ReactiveTicks.GOES_ON);
            Programs.dueStatuses("5, and " + bits, x, "000101");
            x.restart();
            Check.due("all, and " + bits, x.tick(63 | bits), ReactiveTicks.ENDED);
            Programs.dueStatuses("all, and " + bits, x, "111111");
            ReactiveTicks held = Programs.fresh("pause suspend5");
            held.tick(0);
            Check.due("held by none, with " + bits, held.tick(bits), ReactiveTicks.ENDED);
        }
        ReactiveTicks all = Programs.fresh("pause");
        all.tick(-1);
        Programs.dueStatuses("all bits", all, "111111");
        all.restart();
        all.tick(Integer.MAX_VALUE);
        Programs.dueStatuses("all bits but the highest", all, "111111");
    }

    private static void noneAfterTheEnd() {
        Check.sentence("NONE if the program has ended.");
        String[] pasts = {
            "tick9", "emit0 program tick6", "pause program tick1 tick2", "exit0 trap program tick0",
            "emit0 nothing test0 program tick0 tick1", "pause suspend0 program tick0 tick1 tick0",
        };
        for (String past : pasts) {
            ReactiveTicks x = Twins.of(past).plain;
            Check.due("ended() after " + past, x.ended(), 1);
            for (int inputs = 0; inputs < 64; inputs++) {
                Check.due("tick(" + inputs + ") after " + past, x.tick(inputs), ReactiveTicks.NONE);
            }
            Check.due("tick(-1)", x.tick(-1), ReactiveTicks.NONE);
            Twins twins = Twins.of(past);
            twins.asked.tick(0);
            twins.asked.tick(63);
            twins.dueAlike("a refused tick changes nothing: " + past);
        }
        ReactiveTicks again = Programs.fresh("emit0");
        again.tick(0);
        Check.due("ended", again.tick(0), ReactiveTicks.NONE);
        again.restart();
        Check.due("not after restart", again.tick(0), ReactiveTicks.ENDED);
        Check.due("ended", again.tick(0), ReactiveTicks.NONE);
        Programs.load(again, "emit0");
        Check.due("not after program", again.tick(0), ReactiveTicks.ENDED);
        ReactiveTicks stuck = Programs.fresh("emit0 nothing test0");
        Check.due("stuck", stuck.tick(0), ReactiveTicks.STUCK);
        Check.due("is not ended", stuck.tick(0), ReactiveTicks.STUCK);
    }

    private static void whatBecomesOfIt() {
        Check.sentence("Otherwise what becomes of it.");
        ReactiveTicks x = Programs.fresh("pause emit0 nothing test0 seq");
        Check.due("the first", x.tick(0), ReactiveTicks.GOES_ON);
        Check.due("the second", x.tick(0), ReactiveTicks.STUCK);
        Check.due("the second with 0", x.tick(1), ReactiveTicks.ENDED);
    }
}
