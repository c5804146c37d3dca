public final class Promise14LookTest {
    public static void main(String[] args) {
        ReactiveTicks x = Programs.fresh("pause emit0 nothing test0 exit0 par seq trap");
        Check.due("first", x.look(0), ReactiveTicks.GOES_ON);
        Check.due("first, looked at again", x.look(63), ReactiveTicks.GOES_ON);
        Programs.dueActive("nothing has changed", x, 8);
        Check.due("instants()", x.instants(), 0);
        Check.due("status(0)", x.status(0), ReactiveTicks.NONE);
        x.tick(8);
        Check.due("stuck", x.look(0), ReactiveTicks.STUCK);
        Check.due("ends", x.look(1), ReactiveTicks.ENDED);
        Check.due("stuck still", x.look(62), ReactiveTicks.STUCK);
        Programs.dueActive("nothing has changed", x, 8, 0);
        Check.due("instants()", x.instants(), 1);
        Check.due("ended()", x.ended(), 0);
        Programs.dueStatuses("of the tick", x, "000100");
        Check.due("tick(1)", x.tick(1), ReactiveTicks.ENDED);
        Check.due("after the end", x.look(0), ReactiveTicks.NONE);
        Check.due("after the end", x.look(-1), ReactiveTicks.NONE);
        x.restart();
        Check.due("restarted", x.look(0), ReactiveTicks.GOES_ON);
        Check.end();
    }
}
