/** One method for each part of promise 8, at its edges. */
public final class Edges08RestartTest {
    private static final String[] PROGRAMS = {
        "pause emit1 seq nothing loop par suspend0 program", "emit0 nothing test0 pause seq program",
        "emit0 program", "pause exit0 seq nothing loop par trap program", "",
    };

    public static void main(String[] args) {
        firstInstantAgain();
        noPauseNoLoop();
        twice();
        nothingElse();
        Check.end();
    }

    private static void firstInstantAgain() {
        Check.sentence("The program is in its first instant again");
        for (String words : PROGRAMS) {
            for (int ticks = 1; ticks <= 4; ticks++) {
                for (int inputs = 0; inputs <= 1; inputs++) {
                    Twins twins = Twins.of(words);
                    for (int i = 0; i < ticks; i++) {
                        twins.asked.tick(inputs);
                    }
                    twins.asked.restart();
                    Check.due("instants()", twins.asked.instants(), 0);
                    Check.due("ended()", twins.asked.ended(), 0);
                    twins.dueAlikeButStatuses(words + " after " + ticks + " ticks with " + inputs);
                }
            }
        }
        ReactiveTicks stuck = Programs.fresh("emit0 nothing test0 pause seq");
        Check.due("a first instant that is stuck", stuck.tick(0), ReactiveTicks.STUCK);
        stuck.restart();
        Check.due("stuck again", stuck.tick(0), ReactiveTicks.STUCK);
        Check.due("instants()", stuck.instants(), 0);
    }

    private static void noPauseNoLoop() {
        Check.sentence("no pause is on, no loop waits");
        ReactiveTicks x = Programs.fresh("pause suspend0 nothing loop par pause pause seq par");
        x.tick(0);
        Programs.dueActive("started", x, 9, 0, 3, 5);
        x.tick(1);
        Programs.dueActive("held, waiting and on", x, 9, 0, 3, 6);
        x.restart();
        Programs.dueActive("restarted", x, 9);
    }

    private static void twice() {
        Check.sentence("The program is in its first instant again (no pause is on, no loop waits).");
        for (String words : PROGRAMS) {
            Twins twins = Twins.of(words);
            twins.asked.restart();
            twins.dueAlike("before any instant: " + words);
            Twins later = Twins.of((words + " tick0 restart").trim());
            later.asked.restart();
            later.dueAlike("a second time: " + words);
        }
    }

    private static void nothingElse() {
        Check.sentence("The program is in its first instant again (no pause is on, no loop waits).");
        ReactiveTicks x = Programs.fresh("emit3 pause seq");
        x.tick(1);
        Programs.push(x, "exit0 pause");
        x.restart();
        Programs.dueStatuses("the last instant is still the last", x, "100100");
        Check.due("the stack stays", x.depth(), 2);
        Check.due("the numbers go on", x.two(0, 0), 2);
        Check.due("the exit is there", x.program(), ReactiveTicks.BAD_EXIT);
        Programs.dueTick("the program stays", x, 0, ReactiveTicks.GOES_ON, 8);
    }
}
