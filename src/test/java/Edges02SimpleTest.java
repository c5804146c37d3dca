/** One method for each sentence of promise 2 that names an edge. */
public final class Edges02SimpleTest {
    public static void main(String[] args) {
        opOutOfRange();
        emitOutOfRange();
        exitOutOfRange();
        otherwiseNotLookedAt();
        full();
        fullCountsWhatWasMade();
        fullUntilEmptied();
        order();
        number();
        Check.end();
    }

    private static void opOutOfRange() {
        Check.sentence("op not 0 to 3");
        ReactiveTicks x = new ReactiveTicks();
        for (int op : Outside.upTo(3)) {
            Check.due("simple(" + op + ", 0)", x.simple(op, 0), ReactiveTicks.BAD_ARG);
        }
        Check.due("nothing was pushed", x.depth(), 0);
        for (int op = 0; op <= 3; op++) {
            Check.due("simple(" + op + ", 0)", x.simple(op, 0), op);
        }
    }

    private static void emitOutOfRange() {
        Check.sentence("or n not 0 to 5 for emit");
        ReactiveTicks x = new ReactiveTicks();
        for (int n : Outside.upTo(5)) {
            Check.due("simple(2, " + n + ")", x.simple(2, n), ReactiveTicks.BAD_ARG);
        }
        Check.due("nothing was pushed", x.depth(), 0);
        for (int n = 0; n <= 5; n++) {
            Check.due("simple(2, " + n + ")", x.simple(2, n), n);
        }
    }

    private static void exitOutOfRange() {
        Check.sentence("or not 0 to 2 for exit");
        ReactiveTicks x = new ReactiveTicks();
        for (int n : Outside.upTo(2)) {
            Check.due("simple(3, " + n + ")", x.simple(3, n), ReactiveTicks.BAD_ARG);
        }
        Check.due("a signal's number is too great", x.simple(3, 5), ReactiveTicks.BAD_ARG);
        Check.due("nothing was pushed", x.depth(), 0);
        for (int n = 0; n <= 2; n++) {
            Check.due("simple(3, " + n + ")", x.simple(3, n), n);
        }
    }

    private static void otherwiseNotLookedAt() {
        Check.sentence("or n not 0 to 5 for emit, or not 0 to 2 for exit, answers BAD_ARG");
        for (int n : Outside.upTo(5)) {
            ReactiveTicks nothing = new ReactiveTicks();
            Check.due("nothing with " + n, nothing.simple(0, n), 0);
            Check.due("program()", nothing.program(), 1);
            Programs.dueTick("nothing with " + n, nothing, 0, ReactiveTicks.ENDED, 0);
            ReactiveTicks pause = new ReactiveTicks();
            Check.due("pause with " + n, pause.simple(1, n), 0);
            Check.due("program()", pause.program(), 1);
            Programs.dueTick("pause with " + n, pause, 0, ReactiveTicks.GOES_ON, 0);
            Programs.dueTick("pause with " + n, pause, 0, ReactiveTicks.ENDED, 0);
        }
    }

    private static void full() {
        Check.sentence("16 statements were made since the stack was last emptied by a call of discard or program "
            + "answers FULL");
        for (int op = 0; op <= 3; op++) {
            ReactiveTicks x = new ReactiveTicks();
            for (int i = 0; i < 16; i++) {
                Check.due("the one with number " + i, x.simple(op, 0), i);
            }
            Check.due("the 17th, op " + op, x.simple(op, 0), ReactiveTicks.FULL);
            Check.due("and again", x.simple(op, 0), ReactiveTicks.FULL);
            Check.due("16 are there", x.depth(), 16);
        }
    }

    private static void fullCountsWhatWasMade() {
        Check.sentence("16 statements were made since the stack was last emptied");
        ReactiveTicks ones = new ReactiveTicks();
        Programs.push(ones,
            "pause loop trap suspend0 loop trap suspend0 loop trap suspend0 loop trap suspend0 loop trap");
        Check.due("15 made, the 16th", ones.simple(0, 0), 15);
        Check.due("16 made, two on the stack", ones.simple(0, 0), ReactiveTicks.FULL);

        ReactiveTicks twos = new ReactiveTicks();
        Programs.push(twos, "pause pause seq pause par pause test0 pause seq pause par pause test0 pause seq");
        Check.due("15 made, one on the stack", twos.depth(), 1);
        Check.due("the 16th", twos.one(0, 0), 15);
        Check.due("16 made, one on the stack", twos.simple(0, 0), ReactiveTicks.FULL);

        ReactiveTicks refused = new ReactiveTicks();
        for (int i = 0; i < 16; i++) {
            Check.due("a bad argument", refused.simple(2, 6), ReactiveTicks.BAD_ARG);
            Check.due("none for one", refused.one(0, 0), ReactiveTicks.TOO_FEW);
            Check.due("none for two", refused.two(0, 0), ReactiveTicks.TOO_FEW);
        }
        for (int i = 0; i < 16; i++) {
            Check.due("refused ones were not made", refused.simple(0, 0), i);
        }
        Check.due("these were", refused.simple(0, 0), ReactiveTicks.FULL);
    }

    private static void fullUntilEmptied() {
        Check.sentence("since the stack was last emptied by a call of discard or program");
        ReactiveTicks x = fullOfOne("exit0");
        Check.due("a refused program", x.program(), ReactiveTicks.BAD_EXIT);
        Check.due("does not empty it", x.simple(0, 0), ReactiveTicks.FULL);
        x.restart();
        Check.due("nor does restart", x.simple(0, 0), ReactiveTicks.FULL);
        x.tick(0);
        Check.due("nor does tick", x.simple(0, 0), ReactiveTicks.FULL);
        Check.due("discard()", x.discard(), 1);
        for (int i = 0; i < 16; i++) {
            Check.due("discard does", x.simple(1, 0), i);
        }
        Check.due("full again", x.simple(0, 0), ReactiveTicks.FULL);
        Check.due("16 are not just one", x.program(), ReactiveTicks.TOO_FEW);
        Check.due("full still", x.simple(0, 0), ReactiveTicks.FULL);

        ReactiveTicks y = fullOfOne("pause");
        Check.due("program()", y.program(), 16);
        for (int i = 0; i < 16; i++) {
            Check.due("program does", y.simple(1, 0), i);
        }
        Check.due("full again", y.simple(0, 0), ReactiveTicks.FULL);

        ReactiveTicks z = new ReactiveTicks();
        Programs.push(z, "pause pause pause");
        z.discard();
        Check.due("a discard of none", z.discard(), 0);
        for (int i = 0; i < 16; i++) {
            Check.due("those discarded do not count", z.simple(1, 0), i);
        }
        Check.due("but these do", z.simple(0, 0), ReactiveTicks.FULL);
    }

    private static ReactiveTicks fullOfOne(String first) {
        ReactiveTicks x = new ReactiveTicks();
        Programs.push(x, first);
        for (int i = 1; i < 16; i++) {
            Check.due("loop " + i, x.one(0, 0), i);
        }
        return x;
    }

    private static void order() {
        Check.sentence("Tested in this order: op not 0 to 3, or n not 0 to 5 for emit, or not 0 to 2 for exit, "
            + "answers BAD_ARG; 16 statements were made");
        ReactiveTicks x = fullOfOne("pause");
        Check.due("op -1", x.simple(-1, 0), ReactiveTicks.BAD_ARG);
        Check.due("op 4", x.simple(4, 0), ReactiveTicks.BAD_ARG);
        Check.due("emit -1", x.simple(2, -1), ReactiveTicks.BAD_ARG);
        Check.due("emit 6", x.simple(2, 6), ReactiveTicks.BAD_ARG);
        Check.due("exit -1", x.simple(3, -1), ReactiveTicks.BAD_ARG);
        Check.due("exit 3", x.simple(3, 3), ReactiveTicks.BAD_ARG);
        Check.due("nothing looks at no n", x.simple(0, -1), ReactiveTicks.FULL);
        Check.due("pause looks at no n", x.simple(1, 6), ReactiveTicks.FULL);
        Check.due("emit 5", x.simple(2, 5), ReactiveTicks.FULL);
        Check.due("exit 2", x.simple(3, 2), ReactiveTicks.FULL);
    }

    private static void number() {
        Check.sentence("Otherwise the statement's number.");
        ReactiveTicks x = new ReactiveTicks();
        Check.due("the least", x.simple(3, 2), 0);
        Check.due("those of one count", x.one(1, 0), 1);
        Check.due("after it", x.simple(0, 0), 2);
        Check.due("those of two count", x.two(1, 0), 3);
        for (int i = 4; i < 16; i++) {
            Check.due("up to the greatest", x.simple(i % 4, 0), i);
        }
        x.discard();
        Check.due("the least again", x.simple(1, 0), 0);
        x.program();
        Check.due("and again", x.simple(1, 0), 0);
    }
}
