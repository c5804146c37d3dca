public final class Promise09TickTest {
    private static final int ENDED = ReactiveTicks.ENDED;
    private static final int GOES_ON = ReactiveTicks.GOES_ON;
    private static final int STUCK = ReactiveTicks.STUCK;

    public static void main(String[] args) {
        afterTheEnd();
        sequences();
        parsStartedAndResumed();
        codesOfPars();
        loops();
        traps();
        testsFoundOut();
        testsStuck();
        testsResumed();
        unknownTestsInSequence();
        suspendsHold();
        suspendsUnknown();
        suspendsInSuspends();
        stoppedPauses();
        stoppedLoops();
        stuckIsAsIfItHadNotBeen();
        Check.end();
    }

    private static void afterTheEnd() {
        ReactiveTicks x = Programs.fresh("pause");
        Check.due("first", x.tick(0), GOES_ON);
        Check.due("second", x.tick(0), ENDED);
        Check.due("third", x.tick(0), ReactiveTicks.NONE);
        Check.due("with inputs", x.tick(-1), ReactiveTicks.NONE);
    }

    private static void sequences() {
        ReactiveTicks x = Programs.fresh("emit0 pause seq emit1 seq pause seq emit2 seq");
        Programs.dueTick("seq 1", x, 0, GOES_ON, 1);
        Programs.dueActive("seq 1", x, 9, 1);
        Programs.dueTick("seq 2", x, 0, GOES_ON, 2);
        Programs.dueActive("seq 2", x, 9, 5);
        Programs.dueTick("seq 3", x, 0, ENDED, 4);

        ReactiveTicks right = Programs.fresh("pause pause pause emit0 seq seq seq");
        Programs.dueTick("right 1", right, 0, GOES_ON, 0);
        Programs.dueTick("right 2", right, 0, GOES_ON, 0);
        Programs.dueActive("right 2", right, 7, 1);
        Programs.dueTick("right 3", right, 0, GOES_ON, 0);
        Programs.dueActive("right 3", right, 7, 2);
        Programs.dueTick("right 4", right, 0, ENDED, 1);
    }

    private static void parsStartedAndResumed() {
        ReactiveTicks x = Programs.fresh("pause emit0 seq pause pause seq emit1 seq par emit2 seq");
        Programs.dueTick("par 1", x, 0, GOES_ON, 0);
        Programs.dueActive("par 1", x, 11, 0, 3);
        Programs.dueTick("par 2", x, 0, GOES_ON, 1);
        Programs.dueActive("par 2", x, 11, 4);
        Programs.dueTick("par 3", x, 0, ENDED, 6);

        ReactiveTicks mirrored = Programs.fresh("pause pause seq pause par emit0 seq");
        Programs.dueTick("mirrored 1", mirrored, 0, GOES_ON, 0);
        Programs.dueTick("mirrored 2", mirrored, 0, GOES_ON, 0);
        Programs.dueActive("mirrored 2", mirrored, 7, 1);
        Programs.dueTick("mirrored 3", mirrored, 0, ENDED, 1);
    }

    private static void codesOfPars() {
        String after = " emit0 seq trap emit1 seq trap emit2 seq trap";
        String[] parts = {"nothing", "pause", "exit0", "exit1", "exit2"};
        int[] emitted = {7, 0, 6, 4, 0};
        for (int p = 0; p < 5; p++) {
            for (int q = 0; q < 5; q++) {
                int greater = Math.max(p, q);
                String words = parts[p] + " " + parts[q] + " par" + after;
                ReactiveTicks x = Programs.fresh(words);
                Programs.dueTick(words, x, 0, greater == 1 ? GOES_ON : ENDED, emitted[greater]);
            }
        }
    }

    private static void loops() {
        ReactiveTicks x = Programs.fresh("emit0 pause seq emit1 seq loop");
        for (int i = 0; i < 3; i++) {
            Programs.dueTick("P started", x, 0, GOES_ON, 1);
            Programs.dueActive("P started", x, 6, 1);
            Programs.dueTick("P resumed", x, 0, GOES_ON, 2);
            Programs.dueActive("P resumed", x, 6, 5);
        }
        ReactiveTicks never = Programs.fresh("emit0 loop emit1 seq");
        Programs.dueTick("what follows a loop", never, 0, GOES_ON, 1);
        Programs.dueTick("never comes", never, 0, GOES_ON, 1);

        ReactiveTicks inner = Programs.fresh("nothing loop exit0 pause test1 par trap loop");
        Programs.dueTick("an inner loop waits", inner, 0, GOES_ON, 0);
        Programs.dueActive("an inner loop waits", inner, 8, 1, 3);
        Programs.dueTick("it waits again", inner, 2, GOES_ON, 0);
        Programs.dueActive("it waits again", inner, 8, 1);
        inner.restart();
        Programs.dueTick("left by an exit", inner, 2, GOES_ON, 0);
        Programs.dueActive("left by an exit", inner, 8, 7);
    }

    private static void traps() {
        ReactiveTicks x = Programs.fresh("pause exit1 seq emit0 seq trap emit1 seq trap emit2 seq");
        Programs.dueTick("traps 1", x, 0, GOES_ON, 0);
        Programs.dueTick("traps 2", x, 0, ENDED, 4);

        ReactiveTicks beside = Programs.fresh("pause trap exit0 par trap emit0 seq");
        Programs.dueTick("a trap of a pause has a code for the par", beside, 0, ENDED, 1);

        ReactiveTicks plain = Programs.fresh("pause trap emit0 seq");
        Programs.dueTick("a trap lets 1 by", plain, 0, GOES_ON, 0);
        Programs.dueTick("a trap lets 0 by", plain, 0, ENDED, 1);
    }

    private static void testsFoundOut() {
        ReactiveTicks chain = Programs.fresh(
            "emit1 nothing test0 emit2 nothing test1 par emit3 emit4 test2 par");
        Programs.dueTick("one leads to the next", chain, 1, ENDED, 2 + 4 + 8);
        chain.restart();
        Programs.dueTick("or to none", chain, 0, ENDED, 16);

        ReactiveTicks backwards = Programs.fresh(
            "emit5 nothing test4 emit4 nothing test3 par emit3 nothing test2 par emit2 par");
        Programs.dueTick("whichever stands first", backwards, 0, ENDED, 4 + 8 + 16 + 32);

        ReactiveTicks longest = Programs.fresh(
            "nothing emit1 test0 nothing emit2 test1 par nothing emit3 test2 par nothing emit4 test3 par");
        Programs.dueTick("each found after the one before", longest, 0, ENDED, 2 + 8);
        longest.restart();
        Programs.dueTick("each found after the one before", longest, 1, ENDED, 4 + 16);

        ReactiveTicks all = Programs.fresh(
            "emit1 emit2 emit3 emit4 emit5 pause nothing test5 test4 test3 test2 test1 test0");
        Programs.dueTick("all six, one after the other", all, 0, ENDED, 0);

        ReactiveTicks both = Programs.fresh("emit1 emit1 test0");
        Programs.dueTick("0 can't be emitted, so it is absent", both, 0, ENDED, 2);
    }

    private static void testsStuck() {
        ReactiveTicks self = Programs.fresh("emit0 emit0 test0");
        Programs.dueTick("no guessing, though both emit it", self, 0, STUCK, 0);
        Programs.dueStatuses("no guessing", self, "200000");

        ReactiveTicks pair = Programs.fresh("nothing emit1 test0 nothing emit0 test1 par emit2 par");
        Programs.dueTick("two ways out are none", pair, 0, STUCK, 4);
        Programs.dueStatuses("two ways out", pair, "221000");
        Programs.dueTick("an input helps", pair, 2, ENDED, 4);
        Programs.dueStatuses("an input helps", pair, "011000");

        ReactiveTicks follows = Programs.fresh("nothing nothing test0 emit0 seq");
        Programs.dueTick("what follows an unknown test must not be", follows, 0, STUCK, 0);

        ReactiveTicks exits = Programs.fresh("exit0 nothing test0 emit0 seq trap");
        Programs.dueTick("an exit in P of the test", exits, 0, STUCK, 0);
        Programs.dueTick("taken", exits, 1, ENDED, 0);

        ReactiveTicks never = Programs.fresh("pause exit0 test0 emit0 seq trap");
        Programs.dueTick("no way leads to the emit", never, 0, ENDED, 0);

        ReactiveTicks looped = Programs.fresh("nothing pause test0 loop emit0 seq");
        Programs.dueTick("a loop never ends", looped, 0, GOES_ON, 0);

        ReactiveTicks unsure = Programs.fresh("nothing pause test0 loop exit0 par trap emit0 seq");
        Programs.dueTick("a loop of what has no code has none", unsure, 0, STUCK, 0);
        Programs.dueTick("with 0", unsure, 1, ENDED, 0);

        ReactiveTicks waits = Programs.fresh("nothing pause test0 pause par emit0 seq");
        Programs.dueTick("a par ends no sooner than both", waits, 0, GOES_ON, 0);

        ReactiveTicks leaves = Programs.fresh("nothing exit1 test0 exit0 par trap emit0 seq trap");
        Programs.dueTick("a par can take either code", leaves, 0, STUCK, 0);

        ReactiveTicks part = Programs.fresh("exit0 nothing test1 nothing exit0 test1 par emit1 seq trap");
        Programs.dueTick("any code of P goes with any of Q", part, 0, STUCK, 0);
        Programs.dueTick("though one of them exits", part, 2, ENDED, 0);
    }

    private static void testsResumed() {
        ReactiveTicks x = Programs.fresh("pause emit1 seq pause emit2 seq test0");
        Programs.dueTick("P is chosen", x, 1, GOES_ON, 0);
        Programs.dueActive("P is chosen", x, 7, 0);
        Programs.dueTick("and P stays chosen", x, 0, ENDED, 2);
        x.restart();
        Programs.dueTick("Q is chosen", x, 0, GOES_ON, 0);
        Programs.dueActive("Q is chosen", x, 7, 3);
        Programs.dueTick("and Q stays chosen", x, 1, ENDED, 4);

        ReactiveTicks own = Programs.fresh("pause emit0 seq nothing test0");
        Programs.dueTick("started with 0 present", own, 1, GOES_ON, 0);
        Programs.dueTick("resumed it does not test again", own, 0, ENDED, 1);
    }

    private static void unknownTestsInSequence() {
        ReactiveTicks started = Programs.fresh("pause emit0 seq emit1 nothing test0 par");
        Programs.dueTick("what follows a pause can't be in its instant", started, 0, GOES_ON, 0);
        Programs.dueStatuses("what follows a pause", started, "000000");

        ReactiveTicks must = Programs.fresh("emit2 nothing nothing test0 seq emit0 seq");
        Programs.dueTick("what comes before an unknown test must be", must, 0, STUCK, 4);

        ReactiveTicks resumed = Programs.fresh("pause nothing pause test0 seq emit0 seq");
        Programs.dueTick("resumed 1", resumed, 0, GOES_ON, 0);
        Programs.dueTick("resumed 2", resumed, 0, STUCK, 0);
        Programs.dueTick("resumed 2, with 0", resumed, 1, ENDED, 0);
    }

    private static void suspendsHold() {
        ReactiveTicks x = Programs.fresh("pause emit1 seq nothing loop par suspend0");
        Programs.dueTick("started though 0 is present", x, 1, GOES_ON, 0);
        Programs.dueActive("started", x, 7, 0, 4);
        Programs.dueTick("held", x, 1, GOES_ON, 0);
        Programs.dueActive("held", x, 7, 0, 4);
        Programs.dueTick("let go", x, 0, GOES_ON, 2);
        Programs.dueActive("let go", x, 7, 4);
        Programs.dueTick("held again", x, 1, GOES_ON, 0);
        Programs.dueActive("held again", x, 7, 4);

        ReactiveTicks beside = Programs.fresh("pause suspend0 pause pause seq par emit1 seq");
        beside.tick(0);
        Programs.dueTick("only what stands in it is held", beside, 1, GOES_ON, 0);
        Programs.dueActive("only what stands in it", beside, 8, 0, 3);
        Programs.dueTick("let go", beside, 0, ENDED, 2);

        ReactiveTicks inner = Programs.fresh("pause loop suspend0 loop");
        inner.tick(0);
        Programs.dueTick("the inner loop comes to wait", inner, 0, GOES_ON, 0);
        Programs.dueActive("the inner loop waits", inner, 4, 1);
        Programs.dueTick("held while waiting", inner, 1, GOES_ON, 0);
        Programs.dueActive("held while waiting", inner, 4, 1);
        Programs.dueTick("started again", inner, 0, GOES_ON, 0);
        Programs.dueActive("started again", inner, 4, 0);

        ReactiveTicks emitter = Programs.fresh("pause emit1 seq suspend0 pause emit0 seq par");
        emitter.tick(0);
        Programs.dueTick("held by a signal that is emitted", emitter, 0, GOES_ON, 1);
        Programs.dueActive("held by an emitted signal", emitter, 8, 0);
        Programs.dueTick("let go", emitter, 0, ENDED, 2);
    }

    private static void suspendsUnknown() {
        ReactiveTicks self = Programs.fresh("pause emit0 seq suspend0");
        self.tick(0);
        Programs.dueTick("its own signal hangs on it", self, 0, STUCK, 0);
        Programs.dueActive("stuck", self, 4, 0);
        Programs.dueTick("held", self, 1, GOES_ON, 0);
        Programs.dueActive("held", self, 4, 0);

        ReactiveTicks after = Programs.fresh("pause suspend0 emit0 seq");
        after.tick(0);
        Programs.dueTick("what follows hangs on it", after, 0, STUCK, 0);

        ReactiveTicks leaves = Programs.fresh("pause exit0 seq suspend0 emit1 seq trap emit2 seq");
        leaves.tick(0);
        Programs.dueTick("codes above 1 go through", leaves, 0, ENDED, 4);

        ReactiveTicks pair = Programs.fresh("pause exit0 seq suspend0 trap pause par emit0 seq");
        pair.tick(0);
        Programs.dueTick("it can finish with 1 too", pair, 0, STUCK, 0);
        Programs.dueTick("with 1", pair, 1, GOES_ON, 0);
        Programs.dueActive("with 1", pair, 9, 0);

        ReactiveTicks goesOn = Programs.fresh("pause pause seq suspend0 emit0 seq");
        goesOn.tick(0);
        Programs.dueTick("whichever way, nothing follows now", goesOn, 0, GOES_ON, 0);
        Programs.dueActive("it was not held", goesOn, 6, 1);
    }

    private static void suspendsInSuspends() {
        ReactiveTicks x = Programs.fresh("pause pause seq suspend0 pause par suspend1");
        x.tick(0);
        Programs.dueTick("the outer one holds all", x, 2, GOES_ON, 0);
        Programs.dueActive("the outer one holds all", x, 7, 0, 4);
        Programs.dueTick("both hold", x, 3, GOES_ON, 0);
        Programs.dueActive("both hold", x, 7, 0, 4);
        Programs.dueTick("the inner one holds its own", x, 1, GOES_ON, 0);
        Programs.dueActive("the inner one holds its own", x, 7, 0);
        Programs.dueTick("none holds", x, 0, GOES_ON, 0);
        Programs.dueActive("none holds", x, 7, 1);
        Programs.dueTick("none holds", x, 0, ENDED, 0);
    }

    private static void stoppedPauses() {
        ReactiveTicks started = Programs.fresh("pause exit0 par trap pause seq");
        Programs.dueTick("a pause just started", started, 0, GOES_ON, 0);
        Programs.dueActive("is stopped by the exit beside it", started, 6, 4);

        ReactiveTicks mirrored = Programs.fresh("exit0 pause par trap pause seq");
        Programs.dueTick("in whichever part", mirrored, 0, GOES_ON, 0);
        Programs.dueActive("in whichever part", mirrored, 6, 4);

        ReactiveTicks held = Programs.fresh("pause suspend0 pause exit1 seq par trap pause par trap loop");
        held.tick(0);
        Programs.dueTick("a pause that is held", held, 1, GOES_ON, 0);
        Programs.dueActive("is stopped too", held, 11, 10);

        ReactiveTicks inner = Programs.fresh("pause exit0 par trap pause par emit0 seq");
        Programs.dueTick("only what stands in that par", inner, 0, GOES_ON, 0);
        Programs.dueActive("only what stands in that par", inner, 8, 4);

        ReactiveTicks outer = Programs.fresh("pause exit1 par trap pause par trap pause seq");
        Programs.dueTick("all that stands in the outer par", outer, 0, GOES_ON, 0);
        Programs.dueActive("all that stands in the outer par", outer, 9, 7);
    }

    private static void stoppedLoops() {
        ReactiveTicks started = Programs.fresh("nothing loop exit0 par trap pause seq");
        Programs.dueTick("a loop that came to wait", started, 0, GOES_ON, 0);
        Programs.dueActive("is stopped by the exit beside it", started, 7, 5);

        ReactiveTicks held = Programs.fresh("nothing loop suspend0 pause exit0 seq par trap loop");
        held.tick(0);
        Programs.dueActive("before", held, 9, 1, 3);
        Programs.dueTick("a waiting loop that is held", held, 1, GOES_ON, 0);
        Programs.dueActive("is stopped too", held, 9, 8);
    }

    private static void stuckIsAsIfItHadNotBeen() {
        ReactiveTicks first = Programs.fresh("emit0 pause test0 pause seq");
        Programs.dueTick("the first instant is stuck", first, 0, STUCK, 0);
        Programs.dueActive("the first instant is stuck", first, 5);
        Programs.dueTick("the next one is the first", first, 1, GOES_ON, 0);
        Programs.dueActive("the next one is the first", first, 5, 3);

        ReactiveTicks later = Programs.fresh("pause emit1 seq nothing loop par emit0 nothing test0 pause seq loop par");
        Programs.dueTick("0 is unknown", later, 0, STUCK, 0);
        Programs.dueTick("with 0", later, 1, GOES_ON, 0);
        Programs.dueActive("with 0", later, 13, 0, 4, 9);
        Programs.dueTick("second", later, 0, GOES_ON, 2);
        Programs.dueActive("second", later, 13, 4, 11);
        Programs.dueTick("third is stuck", later, 0, STUCK, 0);
        Programs.dueActive("third is stuck", later, 13, 4, 11);
        Check.due("not ended", later.ended(), 0);
        Check.due("instants()", later.instants(), 2);
    }
}
