/** One method for each sentence of promise 11 that names an edge. */
public final class Edges11ActiveTest {
    public static void main(String[] args) {
        noSuchStatement();
        numbersOfTheProgram();
        onOrWaiting();
        elseZero();
        Check.end();
    }

    private static void noSuchStatement() {
        Check.sentence("NONE if the program has no such statement");
        ReactiveTicks fresh = new ReactiveTicks();
        for (int number : Outside.upTo(0)) {
            Check.due("new, active(" + number + ")", fresh.active(number), ReactiveTicks.NONE);
        }
        for (int size = 1; size <= 16; size++) {
            ReactiveTicks x = new ReactiveTicks();
            x.simple(1, 0);
            for (int i = 1; i < size; i++) {
                x.one(0, 0);
            }
            x.program();
            dueNone("before the first instant", x, size);
            x.tick(0);
            dueNone("on", x, size);
            for (int number = 0; number < size; number++) {
                Check.due("of " + size + ", active(" + number + ")", x.active(number), number == 0 ? 1 : 0);
            }
        }
    }

    private static void dueNone(String what, ReactiveTicks x, int size) {
        for (int number : Outside.upTo(size - 1)) {
            Check.due(what + ", of " + size + ", active(" + number + ")", x.active(number), ReactiveTicks.NONE);
        }
    }

    private static void numbersOfTheProgram() {
        Check.sentence("if the program has no such statement");
        ReactiveTicks x = Programs.fresh("pause pause par pause par");
        x.tick(0);
        Programs.push(x, "nothing nothing nothing nothing nothing nothing");
        Programs.dueActive("those on the stack have none", x, 5, 0, 1, 3);
        x.discard();
        Programs.load(x, "pause loop");
        Programs.dueActive("those of a greater one before are gone", x, 2);
        Check.due("active(3)", x.active(3), ReactiveTicks.NONE);
        x.tick(0);
        x.tick(0);
        Programs.dueActive("it waits", x, 2, 1);
        Programs.load(x, "pause pause par pause par");
        Programs.dueActive("a greater one again", x, 5);
    }

    private static void onOrWaiting() {
        Check.sentence("1 if the statement with this number is a pause that is on or a loop that is waiting");
        ReactiveTicks x = Programs.fresh(
            "pause pause par pause par pause par pause par pause par pause par pause par loop");
        Programs.dueActive("before", x, 16);
        x.tick(0);
        Programs.dueActive("all pauses, not the loop", x, 16, 0, 1, 3, 5, 7, 9, 11, 13);
        x.tick(0);
        Programs.dueActive("the loop with the greatest number", x, 16, 15);
        x.tick(0);
        Programs.dueActive("all pauses again", x, 16, 0, 1, 3, 5, 7, 9, 11, 13);
        ReactiveTicks loops = Programs.fresh("nothing loop nothing loop par nothing loop par nothing loop par");
        loops.tick(0);
        Programs.dueActive("all loops", loops, 11, 1, 3, 6, 9);
    }

    private static void elseZero() {
        Check.sentence("else 0");
        ReactiveTicks wholes = Programs.fresh("pause nothing seq trap suspend0 nothing par nothing test5 loop loop");
        wholes.tick(32);
        Programs.dueActive("what a pause stands in has 0, loops too", wholes, 11, 0);
        ReactiveTicks mixed = Programs.fresh("pause nothing loop par exit0 seq trap pause suspend0 par");
        mixed.tick(0);
        Programs.dueActive("beside those that are on and waiting", mixed, 10, 0, 2, 7);
        ReactiveTicks over = Programs.fresh("pause pause par");
        over.tick(0);
        over.tick(0);
        Check.due("ended()", over.ended(), 1);
        Programs.dueActive("after the end", over, 3);
        over.restart();
        Programs.dueActive("restarted", over, 3);
        ReactiveTicks stuck = Programs.fresh("pause emit0 nothing test0 par");
        Check.due("stuck", stuck.tick(0), ReactiveTicks.STUCK);
        Programs.dueActive("after a stuck first instant", stuck, 5);
    }
}
