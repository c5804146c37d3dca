/** One method for each sentence of promise 4 that names an edge. */
public final class Edges04TwoTest {
    public static void main(String[] args) {
        opOutOfRange();
        testOutOfRange();
        otherwiseNotLookedAt();
        full();
        tooFew();
        order();
        number();
        takesPAndQ();
        Check.end();
    }

    private static void opOutOfRange() {
        Check.sentence("op not 0 to 2");
        ReactiveTicks x = new ReactiveTicks();
        Programs.push(x, "pause pause pause pause");
        for (int op : Outside.upTo(2)) {
            Check.due("two(" + op + ", 0)", x.two(op, 0), ReactiveTicks.BAD_ARG);
        }
        Check.due("all are there still", x.depth(), 4);
        for (int op = 0; op <= 2; op++) {
            Check.due("two(" + op + ", 0)", x.two(op, 0), op + 4);
        }
        Check.due("all are taken", x.depth(), 1);
    }

    private static void testOutOfRange() {
        Check.sentence("or s not 0 to 5 for test, answers BAD_ARG");
        ReactiveTicks x = new ReactiveTicks();
        Programs.push(x, "pause pause pause pause pause pause pause");
        for (int s : Outside.upTo(5)) {
            Check.due("two(2, " + s + ")", x.two(2, s), ReactiveTicks.BAD_ARG);
        }
        Check.due("all are there still", x.depth(), 7);
        for (int s = 0; s <= 5; s++) {
            Check.due("two(2, " + s + ")", x.two(2, s), s + 7);
        }
    }

    private static void otherwiseNotLookedAt() {
        Check.sentence("or s not 0 to 5 for test");
        for (int s : Outside.upTo(5)) {
            ReactiveTicks x = new ReactiveTicks();
            Programs.push(x, "emit0 emit1 pause");
            Check.due("par with " + s, x.two(1, s), 3);
            Check.due("seq with " + s, x.two(0, s), 4);
            Check.due("program()", x.program(), 5);
            Programs.dueTick("started with " + s, x, 0, ReactiveTicks.GOES_ON, 3);
            Programs.dueTick("resumed with " + s, x, 63, ReactiveTicks.ENDED, 0);
        }
    }

    private static void full() {
        Check.sentence("FULL as for simple");
        for (int op = 0; op <= 2; op++) {
            ReactiveTicks x = new ReactiveTicks();
            for (int i = 0; i < 14; i++) {
                Check.due("made", x.simple(1, 0), i);
            }
            Check.due("the 15th", x.two(op, 0), 14);
            Check.due("the 16th", x.two(op, 0), 15);
            Check.due("the 17th", x.two(op, 0), ReactiveTicks.FULL);
            Check.due("none was taken off", x.depth(), 12);
            x.discard();
            Programs.push(x, "pause pause");
            Check.due("emptied by discard", x.two(op, 0), 2);
            Check.due("program()", x.program(), 3);
            Programs.push(x, "pause pause");
            Check.due("emptied by program", x.two(op, 0), 2);
        }
    }

    private static void tooFew() {
        Check.sentence("fewer than two statements answers TOO_FEW");
        for (int op = 0; op <= 2; op++) {
            ReactiveTicks x = new ReactiveTicks();
            Check.due("none", x.two(op, 0), ReactiveTicks.TOO_FEW);
            Check.due("the number is free still", x.simple(1, 0), 0);
            Check.due("one", x.two(op, 0), ReactiveTicks.TOO_FEW);
            Check.due("it is there still", x.depth(), 1);
            Check.due("the number is free still", x.simple(1, 0), 1);
            Check.due("two are enough", x.two(op, 0), 2);
            Check.due("three were made, but one is there", x.two(op, 0), ReactiveTicks.TOO_FEW);
            Check.due("it is there still", x.depth(), 1);
            Check.due("program()", x.program(), 3);
            Check.due("none after program", x.two(op, 0), ReactiveTicks.TOO_FEW);
            Programs.push(x, "pause pause");
            Check.due("discard()", x.discard(), 2);
            Check.due("none after discard", x.two(op, 0), ReactiveTicks.TOO_FEW);
        }
    }

    private static void order() {
        Check.sentence("Tested in this order: op not 0 to 2, or s not 0 to 5 for test, answers BAD_ARG; "
            + "FULL as for simple; fewer than two statements answers TOO_FEW");
        ReactiveTicks x = new ReactiveTicks();
        dueBadArguments("none", x);
        Check.due("none, seq with 6", x.two(0, 6), ReactiveTicks.TOO_FEW);
        Check.due("none, par with -1", x.two(1, -1), ReactiveTicks.TOO_FEW);
        Check.due("made", x.simple(1, 0), 0);
        dueBadArguments("one", x);
        Check.due("one, test 5", x.two(2, 5), ReactiveTicks.TOO_FEW);
        for (int i = 1; i < 16; i++) {
            Check.due("made", x.one(0, 0), i);
        }
        dueBadArguments("full and one", x);
        Check.due("full and one, seq with 6", x.two(0, 6), ReactiveTicks.FULL);
        Check.due("full and one, par with -1", x.two(1, -1), ReactiveTicks.FULL);
        Check.due("full and one, test 5", x.two(2, 5), ReactiveTicks.FULL);

        ReactiveTicks full = new ReactiveTicks();
        for (int i = 0; i < 16; i++) {
            Check.due("made", full.simple(0, 0), i);
        }
        dueBadArguments("full", full);
        Check.due("full, seq with 6", full.two(0, 6), ReactiveTicks.FULL);
    }

    private static void dueBadArguments(String what, ReactiveTicks x) {
        Check.due(what + ", op -1", x.two(-1, 0), ReactiveTicks.BAD_ARG);
        Check.due(what + ", op 3", x.two(3, 0), ReactiveTicks.BAD_ARG);
        Check.due(what + ", test -1", x.two(2, -1), ReactiveTicks.BAD_ARG);
        Check.due(what + ", test 6", x.two(2, 6), ReactiveTicks.BAD_ARG);
    }

    private static void number() {
        Check.sentence("Otherwise the statement's number.");
        ReactiveTicks x = new ReactiveTicks();
        for (int i = 0; i < 15; i++) {
            Check.due("made", x.simple(1, 0), i);
        }
        Check.due("the greatest", x.two(0, 0), 15);
        x.discard();
        Programs.push(x, "pause pause");
        Check.due("the least that two can answer", x.two(0, 0), 2);
    }

    private static void takesPAndQ() {
        Check.sentence("Takes P and, on top of it, Q off and pushes");
        ReactiveTicks x = new ReactiveTicks();
        Programs.push(x, "emit2 pause emit0 seq");
        Check.due("those below P stay", x.depth(), 2);
        Check.due("test 1", x.two(2, 1), 4);
        Check.due("program()", x.program(), 5);
        Programs.dueTick("P of the test is the lower one", x, 2, ReactiveTicks.ENDED, 4);
        x.restart();
        Programs.dueTick("Q of the test is the seq", x, 0, ReactiveTicks.GOES_ON, 0);
        Programs.dueTick("whose P is the lower one", x, 0, ReactiveTicks.ENDED, 1);
    }
}
