public final class Promise03OneTest {
    private static final int[] ODD = {Integer.MIN_VALUE, -1, 6, 7, Integer.MAX_VALUE};

    public static void main(String[] args) {
        numbersAndStack();
        wrongArguments();
        order();
        whatIsMade();
        Check.end();
    }

    private static void numbersAndStack() {
        ReactiveTicks x = new ReactiveTicks();
        x.simple(1, 0);
        Check.due("loop looks at no s", x.one(0, -7), 1);
        Check.due("trap looks at no s", x.one(1, 6), 2);
        for (int s = 0; s < 6; s++) {
            Check.due("suspend " + s, x.one(2, s), 3 + s);
        }
        Check.due("each takes one off", x.depth(), 1);
        Check.due("with all that it is made of", x.program(), 9);
    }

    private static void wrongArguments() {
        ReactiveTicks x = new ReactiveTicks();
        x.simple(1, 0);
        for (int odd : ODD) {
            Check.due("op " + odd, x.one(odd, 0), ReactiveTicks.BAD_ARG);
            Check.due("suspend " + odd, x.one(2, odd), ReactiveTicks.BAD_ARG);
        }
        Check.due("op 3", x.one(3, 0), ReactiveTicks.BAD_ARG);
        Check.due("nothing was taken off", x.depth(), 1);
        Check.due("no number was taken", x.one(0, 0), 1);
    }

    private static void order() {
        ReactiveTicks x = new ReactiveTicks();
        Check.due("empty, bad op", x.one(3, 0), ReactiveTicks.BAD_ARG);
        Check.due("empty, bad s", x.one(2, 6), ReactiveTicks.BAD_ARG);
        Check.due("empty", x.one(2, 5), ReactiveTicks.TOO_FEW);
        Check.due("empty still", x.depth(), 0);
        Check.due("no number was taken", x.simple(0, 0), 0);
        for (int i = 1; i < 16; i++) {
            Check.due("statement " + i, x.one(i % 3, 0), i);
        }
        Check.due("full", x.one(0, 0), ReactiveTicks.FULL);
        Check.due("full, bad s", x.one(2, -1), ReactiveTicks.BAD_ARG);
        Check.due("one on the stack still", x.depth(), 1);
        Check.due("all 16 are the program", x.program(), 16);
        Check.due("room again after program", x.simple(0, 0), 0);
    }

    private static void whatIsMade() {
        ReactiveTicks loop = Programs.fresh("emit0 loop");
        Programs.dueTick("a loop of emit 0", loop, 0, ReactiveTicks.GOES_ON, 1);
        Programs.dueTick("a loop of emit 0, again", loop, 0, ReactiveTicks.GOES_ON, 1);

        ReactiveTicks trap = Programs.fresh("exit0 loop trap");
        Programs.dueTick("a trap", trap, 0, ReactiveTicks.ENDED, 0);

        for (int s = 0; s < 6; s++) {
            ReactiveTicks suspend = Programs.fresh("pause suspend" + s);
            Programs.dueTick("suspend starts its P always", suspend, 63, ReactiveTicks.GOES_ON, 0);
            Programs.dueTick("suspend " + s + " holds", suspend, 1 << s, ReactiveTicks.GOES_ON, 0);
            Programs.dueTick("suspend " + s + " lets go", suspend, 63 & ~(1 << s), ReactiveTicks.ENDED, 0);
        }

        ReactiveTicks top = new ReactiveTicks();
        Programs.push(top, "emit0 emit1");
        Check.due("the topmost is taken", top.one(0, 0), 2);
        Check.due("two on the stack", top.depth(), 2);
        Check.due("seq", top.two(0, 0), 3);
        Check.due("program()", top.program(), 4);
        Programs.dueTick("emit 0, then the loop", top, 0, ReactiveTicks.GOES_ON, 3);
        Programs.dueTick("the loop alone", top, 0, ReactiveTicks.GOES_ON, 2);
    }
}
