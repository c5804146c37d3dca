/** One method for each part of promise 13, at its edges. */
public final class Edges13InstantsTest {
    public static void main(String[] args) {
        notStuck();
        sinceTheFirst();
        upToTheLastCall();
        Check.end();
    }

    private static void notStuck() {
        Check.sentence("How many instants there were that were not stuck");
        ReactiveTicks x = Programs.fresh("emit0 nothing test0 pause seq emit1 nothing test1 seq");
        Check.due("none", x.instants(), 0);
        for (int i = 0; i < 5; i++) {
            Check.due("stuck", x.tick(2), ReactiveTicks.STUCK);
            Check.due("none yet", x.instants(), 0);
        }
        Check.due("not stuck", x.tick(1), ReactiveTicks.GOES_ON);
        Check.due("one", x.instants(), 1);
        for (int i = 0; i < 5; i++) {
            Check.due("stuck", x.tick(1), ReactiveTicks.STUCK);
            Check.due("still one", x.instants(), 1);
        }
        x.look(2);
        x.emitted(2);
        Check.due("a look is none", x.instants(), 1);
        Check.due("the last", x.tick(2), ReactiveTicks.ENDED);
        Check.due("counts too", x.instants(), 2);
        Check.due("refused", x.tick(2), ReactiveTicks.NONE);
        Check.due("does not count", x.instants(), 2);
    }

    private static void sinceTheFirst() {
        Check.sentence("since the program was last in its first one");
        ReactiveTicks x = Programs.fresh("pause loop");
        x.tick(0);
        x.tick(0);
        Programs.push(x, "exit0");
        Check.due("a refused program", x.program(), ReactiveTicks.BAD_EXIT);
        Check.due("is not in its first one", x.instants(), 2);
        x.discard();
        Check.due("nor is it by discard", x.instants(), 2);
        x.restart();
        Check.due("it is by restart", x.instants(), 0);
        x.tick(0);
        Check.due("one", x.instants(), 1);
        Programs.load(x, "emit0 nothing test0");
        Check.due("it is by program", x.instants(), 0);
        x.tick(0);
        Check.due("and stays so while stuck", x.instants(), 0);
    }

    private static void upToTheLastCall() {
        Check.sentence("An object is used for at most 512 calls after it has been made");
        ReactiveTicks x = new ReactiveTicks();
        x.simple(0, 0);
        x.one(0, 0);
        x.program();
        for (int i = 1; i <= 508; i++) {
            Check.due("instant " + i, x.tick(0), ReactiveTicks.GOES_ON);
        }
        Check.due("the 512th call", x.instants(), 508);
    }
}
