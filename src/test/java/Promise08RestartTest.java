public final class Promise08RestartTest {
    public static void main(String[] args) {
        ReactiveTicks x = Programs.fresh("emit0 pause seq emit1 loop par");
        Programs.dueTick("first", x, 0, ReactiveTicks.GOES_ON, 3);
        Programs.dueActive("after the first", x, 6, 1, 4);
        Programs.push(x, "nothing pause");
        x.restart();
        Programs.dueActive("no pause is on, no loop waits", x, 6);
        Check.due("instants()", x.instants(), 0);
        Check.due("ended()", x.ended(), 0);
        Check.due("the stack stays", x.depth(), 2);
        Check.due("the count of those made stays", x.two(0, 0), 2);
        Programs.dueStatuses("the last instant stays the last", x, "110000");
        Programs.dueTick("first again", x, 0, ReactiveTicks.GOES_ON, 3);
        Check.due("instants()", x.instants(), 1);
        Programs.dueTick("second", x, 0, ReactiveTicks.GOES_ON, 2);

        ReactiveTicks y = Programs.fresh("emit5");
        y.tick(0);
        Check.due("ended()", y.ended(), 1);
        y.restart();
        Check.due("not any more", y.ended(), 0);
        Check.due("instants()", y.instants(), 0);
        Programs.dueTick("it can run again", y, 0, ReactiveTicks.ENDED, 32);

        ReactiveTicks z = new ReactiveTicks();
        z.restart();
        Check.due("there was no instant yet", z.status(0), ReactiveTicks.NONE);
        Check.due("a new object restarted", z.tick(0), ReactiveTicks.ENDED);
        Check.end();
    }
}
