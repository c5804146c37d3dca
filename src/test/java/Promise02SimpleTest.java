public final class Promise02SimpleTest {
    private static final int[] ODD = {Integer.MIN_VALUE, -1, 6, 7, Integer.MAX_VALUE};

    public static void main(String[] args) {
        numbersAndRanges();
        wrongArguments();
        limit();
        whatIsMade();
        Check.end();
    }

    private static void numbersAndRanges() {
        ReactiveTicks x = new ReactiveTicks();
        Check.due("nothing looks at no n", x.simple(0, Integer.MIN_VALUE), 0);
        Check.due("nothing looks at no n", x.simple(0, 99), 1);
        Check.due("pause looks at no n", x.simple(1, -1), 2);
        Check.due("pause looks at no n", x.simple(1, Integer.MAX_VALUE), 3);
        for (int n = 0; n < 6; n++) {
            Check.due("emit " + n, x.simple(2, n), 4 + n);
        }
        for (int n = 0; n < 3; n++) {
            Check.due("exit " + n, x.simple(3, n), 10 + n);
        }
        Check.due("all of them are on the stack", x.depth(), 13);
    }

    private static void wrongArguments() {
        ReactiveTicks x = new ReactiveTicks();
        for (int odd : ODD) {
            Check.due("op " + odd, x.simple(odd, 0), ReactiveTicks.BAD_ARG);
            Check.due("emit " + odd, x.simple(2, odd), ReactiveTicks.BAD_ARG);
            Check.due("exit " + odd, x.simple(3, odd), ReactiveTicks.BAD_ARG);
        }
        Check.due("op 4", x.simple(4, 0), ReactiveTicks.BAD_ARG);
        Check.due("exit 3", x.simple(3, 3), ReactiveTicks.BAD_ARG);
        Check.due("exit 5", x.simple(3, 5), ReactiveTicks.BAD_ARG);
        Check.due("refused ones push nothing", x.depth(), 0);
        Check.due("refused ones take no number", x.simple(0, 0), 0);
    }

    private static void limit() {
        ReactiveTicks x = new ReactiveTicks();
        for (int i = 0; i < 16; i++) {
            Check.due("statement " + i, x.simple(i % 4, 0), i);
        }
        Check.due("the 17th", x.simple(0, 0), ReactiveTicks.FULL);
        Check.due("a bad argument is seen first", x.simple(2, 6), ReactiveTicks.BAD_ARG);
        Check.due("a bad argument is seen first", x.simple(3, -1), ReactiveTicks.BAD_ARG);
        Check.due("a bad argument is seen first", x.simple(4, 0), ReactiveTicks.BAD_ARG);
        Check.due("still 16", x.depth(), 16);

        Check.due("discard()", x.discard(), 16);
        Check.due("numbers begin anew after discard", x.simple(0, 0), 0);
    }

    private static void whatIsMade() {
        Programs.dueTick("nothing", Programs.fresh("nothing"), 0, ReactiveTicks.ENDED, 0);
        Programs.dueTick("pause", Programs.fresh("pause"), 0, ReactiveTicks.GOES_ON, 0);
        for (int s = 0; s < 6; s++) {
            Programs.dueTick("emit", Programs.fresh("emit" + s), 0, ReactiveTicks.ENDED, 1 << s);
        }
        String after = " emit0 seq trap emit1 seq trap emit2 seq trap emit3 seq";
        Programs.dueTick("exit 0", Programs.fresh("exit0" + after), 0, ReactiveTicks.ENDED, 14);
        Programs.dueTick("exit 1", Programs.fresh("exit1" + after), 0, ReactiveTicks.ENDED, 12);
        Programs.dueTick("exit 2", Programs.fresh("exit2" + after), 0, ReactiveTicks.ENDED, 8);
    }
}
