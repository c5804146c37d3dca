/** One method for each sentence of promise 16. */
public final class Edges16OrderAndLimitsTest {
    private static final int[] OTHER_BITS = {64, 128, 256, 65536, 1 << 30, Integer.MIN_VALUE, -64};

    public static void main(String[] args) {
        otherBitsOfLook();
        otherBitsOfEmitted();
        firstInstantCounts();
        Check.end();
    }

    private static void otherBitsOfLook() {
        Check.sentence("look and emitted: other bits of inputs are not looked at, as in tick.");
        for (int bits : OTHER_BITS) {
            ReactiveTicks x = Programs.fresh("emit2 nothing test2 nothing pause test0 par");
            Check.due("none, and " + bits, x.look(bits), ReactiveTicks.STUCK);
            Check.due("2, and " + bits, x.look(4 | bits), ReactiveTicks.GOES_ON);
            Check.due("0 and 2, and " + bits, x.look(5 | bits), ReactiveTicks.ENDED);
            Check.due("all, and " + bits, x.look(63 | bits), ReactiveTicks.ENDED);
            x.tick(5);
            Check.due("ended, " + bits, x.look(bits), ReactiveTicks.NONE);
        }
    }

    private static void otherBitsOfEmitted() {
        Check.sentence("look and emitted: other bits of inputs are not looked at, as in tick.");
        for (int bits : OTHER_BITS) {
            ReactiveTicks x = Programs.fresh("emit5 emit0 par emit3 emit1 test2 par");
            Check.due("none, and " + bits, x.emitted(bits), 33 + 2);
            Check.due("2, and " + bits, x.emitted(4 | bits), 33 + 8);
            Check.due("0, and " + bits, x.emitted(1 | bits), 32 + 2);
            Check.due("5, and " + bits, x.emitted(32 | bits), 1 + 2);
            Check.due("all, and " + bits, x.emitted(63 | bits), 0);
            ReactiveTicks stuck = Programs.fresh("emit2 nothing test2 emit5 par");
            Check.due("stuck, none, and " + bits, stuck.emitted(bits), 32);
            Check.due("stuck, 5, and " + bits, stuck.emitted(32 | bits), 0);
        }
    }

    private static void firstInstantCounts() {
        Check.sentence("instants: the first instant counts too: 1 after it, if it was not stuck.");
        ReactiveTicks ended = new ReactiveTicks();
        ended.tick(0);
        Check.due("it ended", ended.instants(), 1);
        ReactiveTicks goesOn = Programs.fresh("pause");
        goesOn.tick(0);
        Check.due("it goes on", goesOn.instants(), 1);
        goesOn.restart();
        goesOn.tick(0);
        Check.due("restarted", goesOn.instants(), 1);
        ReactiveTicks stuck = Programs.fresh("emit0 nothing test0 pause seq");
        Check.due("stuck", stuck.tick(0), ReactiveTicks.STUCK);
        Check.due("it was stuck", stuck.instants(), 0);
        Check.due("stuck again", stuck.tick(62), ReactiveTicks.STUCK);
        Check.due("it was stuck", stuck.instants(), 0);
        Check.due("not stuck", stuck.tick(1), ReactiveTicks.GOES_ON);
        Check.due("it was not", stuck.instants(), 1);
    }
}
