public final class Promise11ActiveTest {
    public static void main(String[] args) {
        numbers();
        onlyPausesAndLoops();
        loopWaitsOrRuns();
        stuckChangesNothing();
        Check.end();
    }

    private static void numbers() {
        ReactiveTicks x = Programs.fresh("pause loop");
        Check.due("active(-1)", x.active(-1), ReactiveTicks.NONE);
        Check.due("active(2)", x.active(2), ReactiveTicks.NONE);
        Check.due("active(32)", x.active(32), ReactiveTicks.NONE);
        Check.due("least", x.active(Integer.MIN_VALUE), ReactiveTicks.NONE);
        Check.due("greatest", x.active(Integer.MAX_VALUE), ReactiveTicks.NONE);
        Programs.dueActive("before the first instant", x, 2);
        Programs.push(x, "pause pause pause");
        Check.due("what is on the stack is not the program", x.active(2), ReactiveTicks.NONE);

        ReactiveTicks full = Programs.fresh(
            "pause pause par pause par pause par pause par pause par pause par pause par loop");
        full.tick(0);
        Programs.dueActive("all 16 numbers", full, 16, 0, 1, 3, 5, 7, 9, 11, 13);
        full.tick(0);
        Programs.dueActive("the last number", full, 16, 15);
    }

    private static void onlyPausesAndLoops() {
        ReactiveTicks x = Programs.fresh("pause emit0 seq trap suspend1 nothing par nothing test5");
        x.tick(32);
        Programs.dueActive("what a pause stands in is not answered 1", x, 9, 0);
        x.tick(0);
        Programs.dueActive("after the end", x, 9);
    }

    private static void loopWaitsOrRuns() {
        ReactiveTicks x = Programs.fresh("pause loop");
        x.tick(0);
        Programs.dueActive("its pause is on", x, 2, 0);
        x.tick(0);
        Programs.dueActive("it waits", x, 2, 1);
        x.tick(0);
        Programs.dueActive("its pause is on again", x, 2, 0);

        ReactiveTicks y = Programs.fresh("nothing loop loop");
        y.tick(0);
        Programs.dueActive("the inner one waits", y, 3, 1);
        y.tick(0);
        Programs.dueActive("and again", y, 3, 1);
    }

    private static void stuckChangesNothing() {
        ReactiveTicks x = Programs.fresh("pause emit0 pause test0 pause par seq");
        x.tick(0);
        Programs.dueActive("before", x, 7, 0);
        Check.due("stuck", x.tick(0), ReactiveTicks.STUCK);
        Programs.dueActive("after", x, 7, 0);
        Check.due("with 0 present", x.tick(1), ReactiveTicks.GOES_ON);
        Programs.dueActive("then", x, 7, 4);
    }
}
