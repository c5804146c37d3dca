/** One method for each sentence of promise 1: all of a new object is an edge. */
public final class Edges01NewObjectTest {
    public static void main(String[] args) {
        programIsNothing();
        firstInstant();
        stackIsEmpty();
        Check.end();
    }

    private static void programIsNothing() {
        Check.sentence("The program is nothing (statement 0)");
        ReactiveTicks x = new ReactiveTicks();
        Check.due("active(0)", x.active(0), 0);
        Check.due("active(1)", x.active(1), ReactiveTicks.NONE);
        Check.due("active(-1)", x.active(-1), ReactiveTicks.NONE);
        for (int inputs = 0; inputs < 64; inputs++) {
            Check.due("look(" + inputs + ")", x.look(inputs), ReactiveTicks.ENDED);
            Check.due("emitted(" + inputs + ")", x.emitted(inputs), 0);
        }
        Check.due("tick(0)", x.tick(0), ReactiveTicks.ENDED);
        Programs.dueStatuses("after it", x, "000000");
    }

    private static void firstInstant() {
        Check.sentence("it is in its first instant");
        ReactiveTicks x = new ReactiveTicks();
        Check.due("instants()", x.instants(), 0);
        Check.due("ended()", x.ended(), 0);
        Check.due("tick(63)", x.tick(63), ReactiveTicks.ENDED);
        Check.due("instants() after it", x.instants(), 1);
        Twins twins = new Twins();
        twins.asked.restart();
        twins.dueAlike("restarted");
    }

    private static void stackIsEmpty() {
        Check.sentence("the stack is empty");
        ReactiveTicks x = new ReactiveTicks();
        Check.due("depth()", x.depth(), 0);
        Check.due("one(0, 0)", x.one(0, 0), ReactiveTicks.TOO_FEW);
        Check.due("two(0, 0)", x.two(0, 0), ReactiveTicks.TOO_FEW);
        Check.due("program()", x.program(), ReactiveTicks.TOO_FEW);
        Check.due("discard()", x.discard(), 0);
        Check.due("the first number", x.simple(1, 0), 0);
    }
}
