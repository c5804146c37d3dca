public final class Promise07ProgramTest {
    public static void main(String[] args) {
        howMany();
        exits();
        discardedTrapsAreGone();
        tooFewIsSeenFirst();
        refusedChangesNothing();
        beginsAnew();
        Check.end();
    }

    private static void howMany() {
        ReactiveTicks x = new ReactiveTicks();
        Check.due("an empty stack", x.program(), ReactiveTicks.TOO_FEW);
        Programs.push(x, "nothing nothing");
        Check.due("two on the stack", x.program(), ReactiveTicks.TOO_FEW);
        Check.due("they are there still", x.depth(), 2);
        Check.due("seq", x.two(0, 0), 2);
        Check.due("three statements", x.program(), 3);
        Check.due("the stack is empty", x.depth(), 0);
        Check.due("nothing to take again", x.program(), ReactiveTicks.TOO_FEW);
        Programs.load(x, "pause");
        Check.due("a smaller program has fewer statements", x.active(1), ReactiveTicks.NONE);
    }

    private static void exits() {
        for (int k = 0; k < 3; k++) {
            ReactiveTicks x = new ReactiveTicks();
            x.simple(3, k);
            for (int traps = 0; traps <= k; traps++) {
                Check.due("exit " + k + " in " + traps, x.program(), ReactiveTicks.BAD_EXIT);
                x.one(1, 0);
            }
            Check.due("exit " + k + " in enough", x.program(), k + 2);
        }
        dueBad("one exit of two has its trap", "exit0 trap exit0 seq");
        dueBad("the other one has it", "exit0 exit0 trap seq");
        dueBad("a trap beside it is not around it", "nothing trap exit0 par");
        dueBad("an exit that is never come to", "pause loop exit0 seq");
        dueBad("exit 1 in one trap, with exit 0", "exit0 exit1 test0 trap");
        dueBad("a trap too few on one side", "exit1 trap pause trap seq");
        dueBad("loops and suspends are no traps", "exit0 loop suspend0");
        Programs.fresh("exit1 trap exit0 seq trap");
        Programs.fresh("exit0 loop suspend0 trap");
        Programs.fresh("exit0 trap trap");
    }

    private static void dueBad(String what, String words) {
        ReactiveTicks x = new ReactiveTicks();
        Programs.push(x, words);
        Check.due(what, x.program(), ReactiveTicks.BAD_EXIT);
    }

    private static void discardedTrapsAreGone() {
        ReactiveTicks x = new ReactiveTicks();
        Programs.push(x, "exit0 trap");
        x.discard();
        Programs.push(x, "exit0");
        Check.due("its trap was discarded", x.program(), ReactiveTicks.BAD_EXIT);
    }

    private static void tooFewIsSeenFirst() {
        ReactiveTicks x = new ReactiveTicks();
        Programs.push(x, "exit0 exit0");
        Check.due("two exits without traps", x.program(), ReactiveTicks.TOO_FEW);
    }

    private static void refusedChangesNothing() {
        ReactiveTicks x = Programs.fresh("pause pause seq");
        x.tick(1);
        Programs.push(x, "exit0");
        Check.due("a bad exit", x.program(), ReactiveTicks.BAD_EXIT);
        Check.due("it stands there still", x.depth(), 1);
        Programs.dueActive("the old program is as it was", x, 3, 0);
        Check.due("instants()", x.instants(), 1);
        Check.due("its number is taken still", x.simple(0, 0), 1);
        Check.due("two on the stack", x.program(), ReactiveTicks.TOO_FEW);
        Programs.dueActive("the old program is as it was", x, 3, 0);
        Check.due("the old program goes on", x.tick(0), ReactiveTicks.GOES_ON);
        Programs.dueActive("the old program has gone on", x, 3, 1);
    }

    private static void beginsAnew() {
        ReactiveTicks x = Programs.fresh("pause emit0 seq");
        x.tick(0);
        Programs.push(x, "emit1 pause seq");
        Check.due("putting together does not touch the program", x.active(0), 1);
        Check.due("program()", x.program(), 3);
        Programs.dueActive("no pause is on", x, 3);
        Check.due("instants()", x.instants(), 0);
        Programs.dueStatuses("the last instant was the old one's", x, "000000");
        Programs.dueTick("its first instant", x, 0, ReactiveTicks.GOES_ON, 2);
        x.tick(0);
        Check.due("ended()", x.ended(), 1);
        Programs.load(x, "pause");
        Check.due("a new program has not ended", x.ended(), 0);
        Check.due("and can run", x.tick(0), ReactiveTicks.GOES_ON);
    }
}
