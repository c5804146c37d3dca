public final class Promise06DiscardTest {
    public static void main(String[] args) {
        ReactiveTicks x = new ReactiveTicks();
        Check.due("empty", x.discard(), 0);
        Programs.push(x, "nothing pause pause seq emit1");
        Check.due("three stand there, of five made", x.discard(), 3);
        Check.due("none left", x.discard(), 0);
        Check.due("too few for one", x.one(0, 0), ReactiveTicks.TOO_FEW);
        Check.due("numbers begin anew", x.simple(1, 0), 0);
        for (int i = 1; i < 16; i++) {
            x.one(0, 0);
        }
        Check.due("full, with one on the stack", x.simple(0, 0), ReactiveTicks.FULL);
        Check.due("that one is discarded", x.discard(), 1);
        Check.due("room again", x.simple(0, 0), 0);

        ReactiveTicks y = Programs.fresh("pause emit2 seq");
        y.tick(0);
        Programs.push(y, "exit0 exit1");
        Check.due("discard while a program runs", y.discard(), 2);
        Check.due("the program goes on as it was", y.active(0), 1);
        Check.due("instants()", y.instants(), 1);
        Programs.dueTick("and ends", y, 0, ReactiveTicks.ENDED, 4);
        Check.end();
    }
}
