public final class Promise12EndedTest {
    public static void main(String[] args) {
        ReactiveTicks x = Programs.fresh("pause emit0 nothing test0 seq");
        Check.due("before", x.ended(), 0);
        x.tick(0);
        Check.due("it goes on", x.ended(), 0);
        x.look(1);
        Check.due("a look ends nothing", x.ended(), 0);
        Check.due("stuck", x.tick(0), ReactiveTicks.STUCK);
        Check.due("stuck is not ended", x.ended(), 0);
        Check.due("the end", x.tick(1), ReactiveTicks.ENDED);
        Check.due("ended", x.ended(), 1);
        x.tick(0);
        Check.due("and stays so", x.ended(), 1);
        Programs.push(x, "pause");
        Check.due("while a new one is put together", x.ended(), 1);
        x.program();
        Check.due("a new program has not", x.ended(), 0);
        x.tick(0);
        x.tick(0);
        Check.due("ended", x.ended(), 1);
        x.restart();
        Check.due("restarted", x.ended(), 0);

        ReactiveTicks caught = Programs.fresh("exit1 trap trap");
        caught.tick(0);
        Check.due("by an exit to the outermost trap", caught.ended(), 1);
        Check.end();
    }
}
