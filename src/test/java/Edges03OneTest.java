/** One method for each sentence of promise 3 that names an edge. */
public final class Edges03OneTest {
    public static void main(String[] args) {
        opOutOfRange();
        suspendOutOfRange();
        otherwiseNotLookedAt();
        full();
        emptyStack();
        order();
        number();
        takesJustP();
        Check.end();
    }

    private static void opOutOfRange() {
        Check.sentence("op not 0 to 2");
        ReactiveTicks x = new ReactiveTicks();
        x.simple(1, 0);
        for (int op : Outside.upTo(2)) {
            Check.due("one(" + op + ", 0)", x.one(op, 0), ReactiveTicks.BAD_ARG);
        }
        Check.due("P is there still", x.depth(), 1);
        for (int op = 0; op <= 2; op++) {
            Check.due("one(" + op + ", 0)", x.one(op, 0), op + 1);
        }
    }

    private static void suspendOutOfRange() {
        Check.sentence("or s not 0 to 5 for suspend, answers BAD_ARG");
        ReactiveTicks x = new ReactiveTicks();
        x.simple(1, 0);
        for (int s : Outside.upTo(5)) {
            Check.due("one(2, " + s + ")", x.one(2, s), ReactiveTicks.BAD_ARG);
        }
        Check.due("P is there still", x.depth(), 1);
        for (int s = 0; s <= 5; s++) {
            Check.due("one(2, " + s + ")", x.one(2, s), s + 1);
        }
    }

    private static void otherwiseNotLookedAt() {
        Check.sentence("or s not 0 to 5 for suspend");
        for (int s : Outside.upTo(5)) {
            ReactiveTicks x = new ReactiveTicks();
            x.simple(2, 4);
            Check.due("loop with " + s, x.one(0, s), 1);
            Check.due("trap with " + s, x.one(1, s), 2);
            Check.due("program()", x.program(), 3);
            Programs.dueTick("loop with " + s, x, 0, ReactiveTicks.GOES_ON, 16);
            Programs.dueActive("loop with " + s, x, 3, 1);
            Programs.dueTick("resumed", x, 63 - 16, ReactiveTicks.GOES_ON, 16);
        }
    }

    private static void full() {
        Check.sentence("FULL as for simple");
        for (int op = 0; op <= 2; op++) {
            ReactiveTicks x = new ReactiveTicks();
            x.simple(1, 0);
            for (int i = 1; i < 16; i++) {
                Check.due("the one with number " + i, x.one(op, 0), i);
            }
            Check.due("the 17th, op " + op, x.one(op, 0), ReactiveTicks.FULL);
            Check.due("P is there still", x.depth(), 1);
            Check.due("all 16", x.program(), 16);
            Check.due("emptied by program", x.simple(1, 0), 0);
            Check.due("there is room", x.one(op, 0), 1);
            x.discard();
            for (int i = 0; i < 16; i++) {
                Check.due("emptied by discard", x.simple(1, 0), i);
            }
            Check.due("16 on the stack", x.one(op, 0), ReactiveTicks.FULL);
            Check.due("none was taken off", x.depth(), 16);
        }
    }

    private static void emptyStack() {
        Check.sentence("an empty stack answers TOO_FEW");
        for (int op = 0; op <= 2; op++) {
            ReactiveTicks x = new ReactiveTicks();
            Check.due("new", x.one(op, 0), ReactiveTicks.TOO_FEW);
            Check.due("the number is free still", x.simple(1, 0), 0);
            Check.due("one statement is enough", x.one(op, 0), 1);
            Check.due("discard()", x.discard(), 1);
            Check.due("after discard", x.one(op, 0), ReactiveTicks.TOO_FEW);
            Check.due("the number is free still", x.simple(1, 0), 0);
            Check.due("program()", x.program(), 1);
            Check.due("after program", x.one(op, 0), ReactiveTicks.TOO_FEW);
            Check.due("nothing is there", x.depth(), 0);
            Check.due("the program is not taken", x.active(0), 0);
        }
    }

    // Full and too few never meet here: of 16 that were made at least one is on the stack.
    private static void order() {
        Check.sentence("Tested in this order: op not 0 to 2, or s not 0 to 5 for suspend, answers BAD_ARG; "
            + "FULL as for simple; an empty stack answers TOO_FEW");
        ReactiveTicks empty = new ReactiveTicks();
        Check.due("empty, op -1", empty.one(-1, 0), ReactiveTicks.BAD_ARG);
        Check.due("empty, op 3", empty.one(3, 0), ReactiveTicks.BAD_ARG);
        Check.due("empty, suspend -1", empty.one(2, -1), ReactiveTicks.BAD_ARG);
        Check.due("empty, suspend 6", empty.one(2, 6), ReactiveTicks.BAD_ARG);
        Check.due("empty, loop with 6", empty.one(0, 6), ReactiveTicks.TOO_FEW);
        Check.due("empty, trap with -1", empty.one(1, -1), ReactiveTicks.TOO_FEW);
        ReactiveTicks full = new ReactiveTicks();
        for (int i = 0; i < 16; i++) {
            Check.due("made", full.simple(0, 0), i);
        }
        Check.due("full, op -1", full.one(-1, 0), ReactiveTicks.BAD_ARG);
        Check.due("full, op 3", full.one(3, 0), ReactiveTicks.BAD_ARG);
        Check.due("full, suspend -1", full.one(2, -1), ReactiveTicks.BAD_ARG);
        Check.due("full, suspend 6", full.one(2, 6), ReactiveTicks.BAD_ARG);
        Check.due("full, loop with 6", full.one(0, 6), ReactiveTicks.FULL);
        Check.due("full, trap with -1", full.one(1, -1), ReactiveTicks.FULL);
    }

    private static void number() {
        Check.sentence("Otherwise the statement's number.");
        ReactiveTicks x = new ReactiveTicks();
        for (int i = 0; i < 15; i++) {
            Check.due("made", x.simple(1, 0), i);
        }
        Check.due("the greatest", x.one(1, 0), 15);
        x.discard();
        x.simple(1, 0);
        Check.due("the least that one can answer", x.one(1, 0), 1);
    }

    private static void takesJustP() {
        Check.sentence("Takes P off and pushes");
        ReactiveTicks x = new ReactiveTicks();
        Programs.push(x, "emit0 emit1 emit2 loop");
        Check.due("those below P stay", x.depth(), 3);
        Check.due("par", x.two(1, 0), 4);
        Check.due("seq", x.two(0, 0), 5);
        Check.due("program()", x.program(), 6);
        Programs.dueTick("all are run", x, 0, ReactiveTicks.GOES_ON, 7);
        Programs.dueActive("the loop waits", x, 6, 3);
        Programs.dueTick("the topmost is what loops", x, 0, ReactiveTicks.GOES_ON, 4);
    }
}
