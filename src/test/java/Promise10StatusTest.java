public final class Promise10StatusTest {
    public static void main(String[] args) {
        ReactiveTicks x = Programs.fresh("emit0 nothing test0 emit5 par");
        for (int s = 0; s < 6; s++) {
            Check.due("no instant yet", x.status(s), ReactiveTicks.NONE);
        }
        x.look(0);
        x.emitted(0);
        Check.due("a look is no instant", x.status(0), ReactiveTicks.NONE);
        Check.due("tick(2)", x.tick(2), ReactiveTicks.STUCK);
        Programs.dueStatuses("a stuck instant has statuses", x, "210001");
        Check.due("status(-1)", x.status(-1), ReactiveTicks.NONE);
        Check.due("status(6)", x.status(6), ReactiveTicks.NONE);
        Check.due("status(32)", x.status(32), ReactiveTicks.NONE);
        Check.due("least", x.status(Integer.MIN_VALUE), ReactiveTicks.NONE);
        Check.due("greatest", x.status(Integer.MAX_VALUE), ReactiveTicks.NONE);
        x.look(63);
        x.emitted(63);
        Programs.dueStatuses("a look changes none", x, "210001");
        Check.due("tick(1)", x.tick(1), ReactiveTicks.ENDED);
        Programs.dueStatuses("a later instant has its own", x, "100001");
        Check.due("tick after the end", x.tick(62), ReactiveTicks.NONE);
        Programs.dueStatuses("that was no instant", x, "100001");
        x.restart();
        Programs.dueStatuses("kept over restart", x, "100001");
        Programs.load(x, "emit4 emit3 test3");
        Programs.dueStatuses("kept over program", x, "100001");
        x.tick(4);
        Programs.dueStatuses("of the new program", x, "001220");
        Check.end();
    }
}
