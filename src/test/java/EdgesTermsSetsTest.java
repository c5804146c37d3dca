/** One method for each sentence of "Terms" on what statements must and can do, at its edges. */
public final class EdgesTermsSetsTest {
    private static final int ENDED = ReactiveTicks.ENDED;
    private static final int GOES_ON = ReactiveTicks.GOES_ON;
    private static final int STUCK = ReactiveTicks.STUCK;
    private static final String AFTER = " emit0 seq trap emit1 seq trap emit2 seq trap";

    public static void main(String[] args) {
        sixSignals();
        activeByALoop();
        codes();
        seqMust();
        seqCan();
        seqResumed();
        inactivePart();
        parMust();
        parCan();
        loopNeverEnds();
        trapCodes();
        testUnknown();
        testResumed();
        suspendStarted();
        suspendPresent();
        suspendAbsent();
        suspendUnknown();
        Check.end();
    }

    private static void sixSignals() {
        Check.sentence("There are six SIGNALS, 0 to 5.");
        for (int s = 0; s < 6; s++) {
            ReactiveTicks x = Programs.fresh("emit" + s + " pause nothing test" + s + " seq suspend" + s);
            Programs.dueTick("signal " + s, x, 0, GOES_ON, 1 << s);
            Check.due("status(" + s + ")", x.status(s), 1);
            Programs.dueTick("held by " + s, x, 1 << s, GOES_ON, 0);
            Programs.dueTick("let go by all others", x, 63 & ~(1 << s), ENDED, 0);
        }
        ReactiveTicks y = new ReactiveTicks();
        y.simple(0, 0);
        y.simple(0, 0);
        for (int s = -1; s <= 6; s += 7) {
            Check.due("emit " + s, y.simple(2, s), ReactiveTicks.BAD_ARG);
            Check.due("suspend " + s, y.one(2, s), ReactiveTicks.BAD_ARG);
            Check.due("test " + s, y.two(2, s), ReactiveTicks.BAD_ARG);
            Check.due("status(" + s + ")", y.status(s), ReactiveTicks.NONE);
        }
    }

    private static void activeByALoop() {
        Check.sentence("a statement is ACTIVE if a pause in it is on or a loop in it (or it itself) is waiting");
        ReactiveTicks itself = Programs.fresh("emit0 loop");
        itself.tick(0);
        Programs.dueTick("the program itself", itself, 0, GOES_ON, 1);
        ReactiveTicks inSeq = Programs.fresh("emit1 emit0 loop seq");
        inSeq.tick(0);
        Programs.dueTick("Q of a seq", inSeq, 0, GOES_ON, 1);
        ReactiveTicks inPar = Programs.fresh("emit0 loop emit1 par");
        inPar.tick(0);
        Programs.dueTick("a part of a par", inPar, 0, GOES_ON, 1);
        ReactiveTicks inTest = Programs.fresh("emit1 loop emit0 loop test2");
        inTest.tick(0);
        Programs.dueTick("Q of a test", inTest, 4, GOES_ON, 1);
        ReactiveTicks inAll = Programs.fresh("emit0 loop trap suspend3 loop trap");
        inAll.tick(0);
        Programs.dueTick("deep within", inAll, 0, GOES_ON, 1);
        Programs.dueTick("held deep within", inAll, 8, GOES_ON, 0);
        Programs.dueActive("held deep within", inAll, 6, 1);
    }

    private static void codes() {
        Check.sentence("Code 0 means that it ends, 1 that it goes on in the next instant, k + 2 that it exits k traps "
            + "more than the innermost one around it.");
        dueCode("nothing", ENDED, 7);
        dueCode("emit5", ENDED, 7 + 32);
        dueCode("pause", GOES_ON, 0);
        dueCode("exit0", ENDED, 6);
        dueCode("exit1", ENDED, 4);
        dueCode("exit2", ENDED, 0);
    }

    /** The statement started in the first instant, and in a later one. */
    private static void dueCode(String words, int outcome, int emitted) {
        Programs.dueTick(words + " started", Programs.fresh(words + AFTER), 0, outcome, emitted);
        ReactiveTicks later = Programs.fresh("pause " + words + " seq" + AFTER);
        Programs.dueTick("before " + words, later, 0, GOES_ON, 0);
        Programs.dueTick(words + " started later", later, 0, outcome, emitted);
    }

    private static void seqMust() {
        Check.sentence("Where 0 is a code with which P must finish, the signals that Q started must emit come to it");
        dueFirst("P ends", "nothing emit0 seq", 0, ENDED, 1);
        dueFirst("P goes on", "pause emit0 seq", 0, GOES_ON, 0);
        dueFirst("P exits", "exit0 emit0 seq trap", 0, ENDED, 0);
        dueFirst("P can end or go on, so Q must nothing", "nothing pause test0 emit1 seq emit0 nothing test1 par",
            0, STUCK, 0);
        ReactiveTicks resumed = Programs.fresh("pause emit0 seq");
        resumed.tick(0);
        Programs.dueTick("P resumed ends", resumed, 0, ENDED, 1);
        ReactiveTicks last = Programs.fresh("nothing pause emit0 seq seq");
        last.tick(0);
        Programs.dueTick("Q resumed", last, 0, ENDED, 1);
    }

    private static void seqCan() {
        Check.sentence("Where 0 is a code with which P can finish, the signals that Q started can emit come to it");
        dueFirst("P can end", "nothing pause test0 emit0 seq", 0, STUCK, 0);
        dueFirst("P can't end", "exit0 pause test0 emit0 seq trap", 0, GOES_ON, 0);
        dueFirst("the codes of P but 0, and those of Q", "nothing exit0 test0 exit1 seq trap emit0 seq trap",
            0, STUCK, 0);
        dueFirst("0 of P does not stay", "nothing nothing test0 pause seq emit0 seq", 0, GOES_ON, 0);
    }

    private static void dueFirst(String what, String words, int inputs, int outcome, int emitted) {
        Programs.dueTick(what, Programs.fresh(words), inputs, outcome, emitted);
    }

    private static void seqResumed() {
        Check.sentence("Resumed, with P active: the same with P resumed; with Q active: as Q resumed.");
        ReactiveTicks x = Programs.fresh("pause pause seq pause pause seq seq");
        for (int number : new int[] {0, 1, 3, 4}) {
            Programs.dueTick("before " + number, x, 0, GOES_ON, 0);
            Programs.dueActive("just one of P or of Q", x, 7, number);
        }
        Programs.dueTick("Q resumed ends", x, 0, ENDED, 0);
        ReactiveTicks emits = Programs.fresh("emit0 pause seq emit1 pause seq emit2 seq seq");
        Programs.dueTick("P started", emits, 0, GOES_ON, 1);
        Programs.dueTick("P resumed and Q started", emits, 0, GOES_ON, 2);
        Programs.dueTick("Q resumed", emits, 0, ENDED, 4);
        ReactiveTicks exits = Programs.fresh("pause exit1 seq emit0 seq" + AFTER);
        Programs.dueTick("P started", exits, 0, GOES_ON, 0);
        Programs.dueTick("P resumed exits", exits, 0, ENDED, 4);
    }

    private static void inactivePart() {
        Check.sentence("and the one that is not finishes with 0 and emits nothing");
        String[] rows = {"emit0 pause emit1 seq par emit2 seq", "pause emit1 seq emit0 par emit2 seq"};
        for (String row : rows) {
            ReactiveTicks x = Programs.fresh(row);
            Programs.dueTick(row, x, 0, GOES_ON, 1);
            Programs.dueTick(row, x, 0, ENDED, 2 + 4);
        }
        String[] inactive = {
            "exit0 trap", "exit0 loop trap", "nothing suspend5", "nothing pause test5", "exit0 loop suspend5 trap",
        };
        for (String part : inactive) {
            String[] sides = {part + " pause par emit2 seq", "pause " + part + " par emit2 seq"};
            for (String row : sides) {
                ReactiveTicks x = Programs.fresh(row);
                Programs.dueTick(row, x, 32, GOES_ON, 0);
                Programs.dueTick(row, x, 32, ENDED, 4);
            }
        }
    }

    private static void parMust() {
        Check.sentence("If there is a code with which P must finish and one for Q, it must finish with the greater of "
            + "the two, else there is none");
        String[] parts = {"nothing", "pause", "exit0", "exit1", "exit2"};
        int[] emitted = {7, 0, 6, 4, 0};
        for (int p = 0; p < 5; p++) {
            for (int q = 0; q < 5; q++) {
                int greater = p > q ? p : q;
                dueCode(parts[p] + " " + parts[q] + " par", greater == 1 ? GOES_ON : ENDED, emitted[greater]);
            }
        }
        dueFirst("none for P", "nothing nothing test0 nothing par emit0 seq", 0, STUCK, 0);
        dueFirst("none for Q", "nothing nothing nothing test0 par emit0 seq", 0, STUCK, 0);
        dueFirst("none, even if the other's is greater", "nothing pause test0 exit0 par trap emit0 seq", 0, STUCK, 0);
    }

    private static void parCan() {
        Check.sentence("it can finish with the greater of any code of P and any of Q with which they can finish");
        dueFirst("0 or 1 with 1 is 1", "nothing pause test0 pause par emit0 seq", 0, GOES_ON, 0);
        dueFirst("1 with 0 or 1 is 1", "pause nothing pause test0 par emit0 seq", 0, GOES_ON, 0);
        dueFirst("0 or 1 with 0 may be 0", "nothing pause test0 nothing par emit0 seq", 0, STUCK, 0);
        dueFirst("0 or 3 with 2 may be 2", "nothing exit1 test0 exit0 par trap emit0 seq trap", 0, STUCK, 0);
        dueFirst("3 or 4 with 2 is not 2", "exit2 exit1 test0 exit0 par trap emit0 seq trap trap", 0, ENDED, 0);
        dueFirst("1 or 2 with 0 may be 2", "pause exit0 test0 nothing par trap emit0 seq", 0, STUCK, 0);
        dueFirst("0 with 1 or 2 may be 2", "nothing pause exit0 test0 par trap emit0 seq", 0, STUCK, 0);
        dueFirst("any of P with any of Q", "exit0 nothing test1 nothing exit0 test1 par emit1 seq trap", 0, STUCK, 0);
    }

    private static void loopNeverEnds() {
        Check.sentence("loop started: as P started, but with 1 in place of 0.");
        ReactiveTicks x = Programs.fresh("emit0 loop emit1 seq");
        for (int i = 0; i < 4; i++) {
            Programs.dueTick("it does not end", x, 0, GOES_ON, 1);
        }
        dueFirst("it can't end", "nothing pause test0 loop emit0 seq", 0, GOES_ON, 0);
        dueFirst("no code for P is none for it", "nothing pause test0 loop exit0 par trap emit0 seq", 0, STUCK, 0);
        dueFirst("no 1 where there is no 0", "exit1 loop exit0 par trap emit0 seq trap", 0, ENDED, 0);
        dueFirst("a loop in a loop", "nothing loop loop emit0 seq", 0, GOES_ON, 0);
        dueFirst("other codes stay: 2", "exit0 loop trap emit0 seq", 0, ENDED, 1);
        dueFirst("other codes stay: 4", "exit2 loop" + AFTER, 0, ENDED, 0);
        ReactiveTicks resumed = Programs.fresh("pause emit0 seq loop");
        for (int i = 0; i < 4; i++) {
            Programs.dueTick("P started", resumed, 0, GOES_ON, 0);
            Programs.dueTick("P resumed, once in an instant", resumed, 0, GOES_ON, 1);
        }
    }

    private static void trapCodes() {
        Check.sentence("trap started or resumed: as P, but with 0 in place of 2, and k - 1 in place of each code k "
            + "above 2.");
        dueCode("nothing trap", ENDED, 7);
        dueCode("pause trap", GOES_ON, 0);
        dueCode("exit0 trap", ENDED, 7);
        dueCode("exit1 trap", ENDED, 6);
        dueCode("exit2 trap", ENDED, 4);
        dueCode("exit2 trap trap", ENDED, 6);
        dueCode("exit2 trap trap trap", ENDED, 7);
        dueCode("exit0 trap trap trap", ENDED, 7);
        dueFirst("2 or 3 may be 0", "exit0 exit1 test0 trap emit0 seq trap emit1 seq", 0, STUCK, 0);
        dueFirst("3 or 4 is 2 or 3", "exit1 exit2 test0 trap emit0 seq trap emit1 seq trap", 0, ENDED, 0);
    }

    private static void testUnknown() {
        Check.sentence("if it is unknown: it must emit nothing and finish with no code, and it can emit and finish "
            + "with all that P started or Q started can");
        dueFirst("both emit it, yet neither must", "emit0 emit0 test0", 0, STUCK, 0);
        dueFirst("both end, yet it must not", "nothing nothing test0 emit0 seq", 0, STUCK, 0);
        dueFirst("P can emit it", "emit0 nothing test0", 0, STUCK, 0);
        dueFirst("Q can emit it", "nothing emit0 test0", 0, STUCK, 0);
        dueFirst("P can end", "nothing exit0 test0 emit0 seq trap", 0, STUCK, 0);
        dueFirst("Q can end", "exit0 nothing test0 emit0 seq trap", 0, STUCK, 0);
        dueFirst("neither can end", "exit0 pause test0 emit0 seq trap", 0, GOES_ON, 0);
        dueFirst("both emit another", "emit1 emit1 test0", 0, ENDED, 2);
    }

    private static void testResumed() {
        Check.sentence("Resumed: as the one of them that is active.");
        for (int inputs = 0; inputs <= 1; inputs++) {
            ReactiveTicks p = Programs.fresh("pause emit1 seq pause emit2 seq test0");
            p.tick(1);
            Programs.dueTick("P, with " + inputs, p, inputs, ENDED, 2);
            ReactiveTicks q = Programs.fresh("pause emit1 seq pause emit2 seq test0");
            q.tick(0);
            Programs.dueTick("Q, with " + inputs, q, inputs, ENDED, 4);
        }
        ReactiveTicks own = Programs.fresh("pause emit0 seq nothing test0");
        own.tick(1);
        Programs.dueTick("its signal does not matter any more", own, 0, ENDED, 1);
    }

    private static void suspendStarted() {
        Check.sentence("suspend s started: as P started.");
        ReactiveTicks x = Programs.fresh("emit1 pause seq suspend0");
        Programs.dueTick("with its signal present", x, 1, GOES_ON, 2);
        Programs.dueActive("with its signal present", x, 4, 1);
        dueFirst("P ends", "emit1 suspend0 emit2 seq", 1, ENDED, 6);
        dueFirst("P emits that signal", "emit0 pause seq suspend0", 0, GOES_ON, 1);
        dueFirst("P exits", "exit0 suspend0 emit1 seq trap emit2 seq", 1, ENDED, 4);
        ReactiveTicks later = Programs.fresh("pause emit1 pause seq suspend0 seq");
        later.tick(0);
        Programs.dueTick("in a later instant", later, 1, GOES_ON, 2);
    }

    private static void suspendPresent() {
        Check.sentence("if s is present: no signals, must and can finish with 1");
        ReactiveTicks x = Programs.fresh("pause emit1 seq suspend0 emit2 seq");
        x.tick(0);
        for (int i = 0; i < 4; i++) {
            Programs.dueTick("held", x, 1, GOES_ON, 0);
            Programs.dueActive("held", x, 6, 0);
        }
        Programs.dueTick("let go", x, 0, ENDED, 6);
        ReactiveTicks exit = Programs.fresh("pause exit0 seq suspend0 trap emit2 seq");
        exit.tick(0);
        Programs.dueTick("no exit either", exit, 1, GOES_ON, 0);
        ReactiveTicks can = Programs.fresh("pause emit1 seq suspend0 emit2 nothing test1 par");
        can.tick(0);
        Programs.dueTick("and it can emit none", can, 1, GOES_ON, 0);
    }

    private static void suspendAbsent() {
        Check.sentence("if it is absent as P resumed");
        ReactiveTicks x = Programs.fresh("pause emit1 seq suspend0 emit2 seq");
        x.tick(1);
        Programs.dueTick("all others are present", x, 32 + 16 + 8, ENDED, 6);
        ReactiveTicks exit = Programs.fresh("pause exit1 seq suspend0" + AFTER);
        exit.tick(0);
        Programs.dueTick("it exits", exit, 0, ENDED, 4);
    }

    private static void suspendUnknown() {
        Check.sentence("if it is unknown: it must emit nothing and finish with no code, and can emit what P resumed "
            + "can, and finish with the codes with which P resumed can, and with 1");
        dueSecond("it can emit it", "pause emit0 seq suspend0", STUCK, 0);
        dueSecond("it can't", "pause emit1 seq suspend0", ENDED, 2);
        dueSecond("it must emit nothing", "pause emit1 emit0 seq seq suspend0", STUCK, 0);
        dueSecond("it can finish with 0", "pause suspend0 emit0 seq", STUCK, 0);
        dueSecond("P resumed goes on, so it can't", "pause pause seq suspend0 emit0 seq", GOES_ON, 0);
        dueSecond("P resumed exits, so it can't", "pause exit0 seq suspend0 emit0 seq trap", ENDED, 0);
        dueSecond("with 1, and not with 2", "pause pause seq suspend0 trap emit0 seq", GOES_ON, 0);
        dueSecond("with 1 beside an exit", "pause exit1 seq suspend0 pause exit0 seq par trap emit0 seq trap",
            STUCK, 0);
        dueSecond("no 1 if it is not in doubt", "pause exit1 seq suspend1 pause exit0 seq par trap emit0 seq trap",
            ENDED, 0);
    }

    private static void dueSecond(String what, String words, int outcome, int emitted) {
        ReactiveTicks x = Programs.fresh(words);
        Programs.dueTick(what + ", first", x, 0, GOES_ON, 0);
        Programs.dueTick(what, x, 0, outcome, emitted);
    }
}
