public final class Promise13InstantsTest {
    public static void main(String[] args) {
        ReactiveTicks x = Programs.fresh("emit0 nothing test0 pause seq loop");
        Check.due("before", x.instants(), 0);
        Check.due("stuck at first", x.tick(0), ReactiveTicks.STUCK);
        Check.due("a stuck one does not count", x.instants(), 0);
        x.tick(1);
        Check.due("the first counts", x.instants(), 1);
        x.tick(0);
        Check.due("the second", x.instants(), 2);
        Check.due("stuck later", x.tick(0), ReactiveTicks.STUCK);
        Check.due("does not count", x.instants(), 2);
        x.look(1);
        x.emitted(1);
        Check.due("a look does not count", x.instants(), 2);
        for (int i = 3; i <= 100; i++) {
            x.tick(1);
            Check.due("many", x.instants(), i);
        }
        x.restart();
        Check.due("restarted", x.instants(), 0);
        x.tick(1);
        Programs.load(x, "pause");
        Check.due("a new program", x.instants(), 0);
        x.tick(0);
        x.tick(0);
        Check.due("the last one counts", x.instants(), 2);
        x.tick(0);
        Check.due("none after the end", x.instants(), 2);
        Check.end();
    }
}
