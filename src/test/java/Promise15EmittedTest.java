public final class Promise15EmittedTest {
    public static void main(String[] args) {
        ReactiveTicks x = Programs.fresh("emit0 emit3 seq pause seq emit5 seq");
        Check.due("first", x.emitted(0), 9);
        Check.due("without those of inputs", x.emitted(8), 1);
        Check.due("inputs beside them are left out", x.emitted(6), 9);
        Check.due("all are inputs", x.emitted(63), 0);
        Programs.dueActive("nothing has changed", x, 7);
        Check.due("status(0)", x.status(0), ReactiveTicks.NONE);
        x.tick(2);
        Check.due("second", x.emitted(0), 32);
        Programs.dueActive("nothing has changed", x, 7, 3);
        Programs.dueStatuses("of the tick", x, "110100");
        x.tick(0);
        Check.due("after the end", x.emitted(0), ReactiveTicks.NONE);
        Check.due("after the end", x.emitted(63), ReactiveTicks.NONE);
        Check.due("instants()", x.instants(), 2);

        ReactiveTicks y = Programs.fresh("emit1 emit2 nothing test2 seq emit4 nothing test1 par");
        Check.due("it would be stuck", y.look(0), ReactiveTicks.STUCK);
        Check.due("those found present before", y.emitted(0), 2 + 16);
        Check.due("less the inputs", y.emitted(2), 16);
        Check.due("not stuck", y.emitted(4), 2 + 16);
        Check.end();
    }
}
