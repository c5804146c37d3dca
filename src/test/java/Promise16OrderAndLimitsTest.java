public final class Promise16OrderAndLimitsTest {
    private static final int[] OTHER_BITS = {0, 64, 128, 1 << 30, Integer.MIN_VALUE, -64};

    public static void main(String[] args) {
        for (int bits : OTHER_BITS) {
            for (int inputs = 0; inputs < 64; inputs++) {
                dueAsWithout(inputs, bits);
            }
        }
        firstInstantCounts();
        Check.end();
    }

    private static void dueAsWithout(int inputs, int bits) {
        ReactiveTicks x = Programs.fresh("emit1 pause test0 emit3 emit2 test3 par emit5 par");
        String what = "inputs " + inputs + " and " + bits;
        boolean stuck = (inputs & 8) == 0;
        int outcome = stuck ? 2 : (inputs & 1) != 0 ? 0 : 1;
        int found = 32 | ((inputs & 1) != 0 ? 2 : 0) | (stuck ? 0 : 8);
        Check.due(what + ", look", x.look(inputs | bits), outcome);
        Check.due(what + ", emitted", x.emitted(inputs | bits), found & ~inputs);
        Check.due(what + ", tick", x.tick(inputs | bits), outcome);
        for (int s = 0; s < 6; s++) {
            int want = (((found | inputs) >> s) & 1) != 0 ? 1 : stuck && (s == 2 || s == 3) ? 2 : 0;
            Check.due(what + ", status " + s, x.status(s), want);
        }
    }

    private static void firstInstantCounts() {
        ReactiveTicks x = Programs.fresh("emit0 nothing test0");
        Check.due("tick(0)", x.tick(0), ReactiveTicks.STUCK);
        Check.due("not if it was stuck", x.instants(), 0);
        Check.due("tick(1)", x.tick(1), ReactiveTicks.ENDED);
        Check.due("1 after it", x.instants(), 1);
    }
}
