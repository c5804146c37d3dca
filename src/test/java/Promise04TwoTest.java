public final class Promise04TwoTest {
    private static final int[] ODD = {Integer.MIN_VALUE, -1, 6, 7, Integer.MAX_VALUE};

    public static void main(String[] args) {
        numbersAndStack();
        wrongArguments();
        order();
        whatIsMade();
        Check.end();
    }

    private static void numbersAndStack() {
        ReactiveTicks x = new ReactiveTicks();
        for (int i = 0; i < 8; i++) {
            x.simple(0, 0);
        }
        Check.due("seq looks at no s", x.two(0, -1), 8);
        Check.due("par looks at no s", x.two(1, 6), 9);
        Check.due("test 0", x.two(2, 0), 10);
        Check.due("test 5", x.two(2, 5), 11);
        Check.due("each takes two off", x.depth(), 4);
    }

    private static void wrongArguments() {
        ReactiveTicks x = new ReactiveTicks();
        x.simple(1, 0);
        x.simple(1, 0);
        for (int odd : ODD) {
            Check.due("op " + odd, x.two(odd, 0), ReactiveTicks.BAD_ARG);
            Check.due("test " + odd, x.two(2, odd), ReactiveTicks.BAD_ARG);
        }
        Check.due("op 3", x.two(3, 0), ReactiveTicks.BAD_ARG);
        Check.due("nothing was taken off", x.depth(), 2);
        Check.due("no number was taken", x.two(0, 0), 2);
    }

    private static void order() {
        ReactiveTicks x = new ReactiveTicks();
        Check.due("empty, bad op", x.two(-1, 0), ReactiveTicks.BAD_ARG);
        Check.due("empty, bad s", x.two(2, 6), ReactiveTicks.BAD_ARG);
        Check.due("empty", x.two(0, 0), ReactiveTicks.TOO_FEW);
        Check.due("number 0", x.simple(0, 0), 0);
        Check.due("just one", x.two(1, 0), ReactiveTicks.TOO_FEW);
        Check.due("one still", x.depth(), 1);
        for (int i = 1; i < 16; i++) {
            Check.due("statement " + i, x.one(0, 0), i);
        }
        Check.due("full is seen before too few", x.two(0, 0), ReactiveTicks.FULL);
        Check.due("a bad argument before both", x.two(2, 9), ReactiveTicks.BAD_ARG);
        Check.due("one still", x.depth(), 1);
    }

    private static void whatIsMade() {
        ReactiveTicks seq = Programs.fresh("pause emit0 seq");
        Programs.dueTick("P of a seq is the lower one", seq, 0, ReactiveTicks.GOES_ON, 0);
        Programs.dueTick("then Q", seq, 0, ReactiveTicks.ENDED, 1);

        ReactiveTicks par = Programs.fresh("pause emit0 par");
        Programs.dueTick("both parts of a par", par, 0, ReactiveTicks.GOES_ON, 1);
        Programs.dueTick("the one that is left", par, 0, ReactiveTicks.ENDED, 0);

        for (int s = 0; s < 6; s++) {
            int p = (s + 1) % 6;
            int q = (s + 2) % 6;
            String words = "emit" + p + " emit" + q + " test" + s;
            Programs.dueTick("present", Programs.fresh(words), 1 << s, ReactiveTicks.ENDED, 1 << p);
            Programs.dueTick("absent", Programs.fresh(words), 0, ReactiveTicks.ENDED, 1 << q);
        }
    }
}
