/** One method for each sentence of "Terms" on what an instant does, at its edges. */
public final class EdgesTermsInstantTest {
    private static final int ENDED = ReactiveTicks.ENDED;
    private static final int GOES_ON = ReactiveTicks.GOES_ON;
    private static final int STUCK = ReactiveTicks.STUCK;

    public static void main(String[] args) {
        inputsArePresent();
        asLongAsThatChanges();
        mustAndCanNot();
        startedInItsFirst();
        stuckChangesNothing();
        stuckHasStatuses();
        pausesThatAreOn();
        loopsThatWait();
        notThoseInAPar();
        notThoseInATrap();
        finishesWithZero();
        numbers();
        Check.end();
    }

    private static void inputsArePresent() {
        Check.sentence("These are present and the others unknown at first.");
        for (int inputs = 0; inputs < 64; inputs++) {
            ReactiveTicks x = Programs.fresh("emit0 nothing test0 emit5 emit5 test5 par");
            boolean stuck = (inputs & 33) != 33;
            Programs.dueTick("inputs", x, inputs, stuck ? STUCK : ENDED, 0);
            for (int s = 0; s < 6; s++) {
                int absentOrUnknown = s == 0 || s == 5 ? 2 : 0;
                int want = ((inputs >> s) & 1) != 0 ? 1 : absentOrUnknown;
                Check.due("inputs " + inputs + ", status(" + s + ")", x.status(s), want);
            }
        }
    }

    private static void asLongAsThatChanges() {
        Check.sentence("Then, as long as that changes anything: the program is looked at with the "
            + "statuses known so far");
        // Each look finds out just one signal, 0 first.
        String absent = "emit1 emit2 emit3 emit4 emit5 pause nothing test5 test4 test3 test2 test1 test0";
        Programs.dueTick("six looks, all absent", Programs.fresh(absent), 0, ENDED, 0);
        String present = "emit1 emit2 emit3 emit4 nothing emit5 nothing pause test5 seq test4 test3 test2 test1 test0";
        Programs.dueTick("six looks, the last present", Programs.fresh(present), 0, ENDED, 32);
        String downwards = "emit4 emit3 emit2 emit1 emit0 pause nothing test0 test1 test2 test3 test4 test5";
        Programs.dueTick("six looks, 5 first", Programs.fresh(downwards), 0, ENDED, 0);
        String stuck = "emit1 emit2 emit3 emit4 emit5 emit5 nothing test5 test4 test3 test2 test1 test0";
        ReactiveTicks x = Programs.fresh(stuck);
        Programs.dueTick("five looks and then stuck", x, 0, STUCK, 0);
        Programs.dueStatuses("five looks and then stuck", x, "000002");
        Programs.dueTick("none to find out", Programs.fresh("pause nothing test0"), 63, GOES_ON, 0);
    }

    private static void mustAndCanNot() {
        Check.sentence("each unknown signal that it must emit becomes present, and each unknown one that it can't emit "
            + "becomes absent");
        ReactiveTicks x = Programs.fresh("emit0 emit1 emit2 test2 par");
        Programs.dueTick("0 must be, 2 can be, 3 can't", x, 0, STUCK, 1);
        Programs.dueStatuses("1 and 2 hang on 2", x, "122000");
        Programs.dueTick("a present one that it can't emit", x, 4 + 8, ENDED, 1 + 2);
        Programs.dueStatuses("stays present", x, "111100");
    }

    private static void startedInItsFirst() {
        Check.sentence("started if it is in its first instant, else resumed");
        ReactiveTicks x = Programs.fresh("emit0 pause seq emit1 seq");
        Programs.dueTick("started", x, 0, GOES_ON, 1);
        Programs.dueTick("resumed", x, 0, ENDED, 2);
        x.restart();
        Programs.dueTick("started again", x, 0, GOES_ON, 1);
        ReactiveTicks stuck = Programs.fresh("emit2 emit0 nothing test0 seq pause seq");
        Programs.dueTick("stuck", stuck, 0, STUCK, 4);
        Programs.dueTick("it is in its first one still", stuck, 1, GOES_ON, 4);
        Programs.dueTick("resumed", stuck, 0, ENDED, 0);
    }

    private static void stuckChangesNothing() {
        Check.sentence("If some signal is unknown still, the instant is STUCK: nothing changes, it is as if it "
            + "had not been");
        String[] pasts = {
            "emit0 nothing test0 pause seq program",
            "nothing loop pause par emit0 pause test0 par program",
            "pause emit0 nothing test0 seq nothing loop par program tick0",
            "pause suspend1 nothing loop suspend1 par pause emit0 seq suspend0 par program tick0 tick3",
            "pause suspend0 emit0 seq loop program tick0 exit0 pause",
            "emit0 nothing test0 program pause exit0 trap seq",
        };
        for (String past : pasts) {
            for (int times = 1; times <= 3; times++) {
                Twins twins = Twins.of(past);
                for (int i = 0; i < times; i++) {
                    Check.due("stuck after " + past, twins.asked.tick(4 * i), STUCK);
                }
                twins.dueAlikeButStatuses(times + " stuck after " + past);
            }
        }
    }

    private static void stuckHasStatuses() {
        Check.sentence("but the statuses can be asked for");
        ReactiveTicks x = Programs.fresh("emit0 nothing test0 emit5 par");
        Check.due("stuck", x.tick(2), STUCK);
        Programs.dueStatuses("an input, one found, one unknown", x, "210001");
        Check.due("stuck again", x.tick(4), STUCK);
        Programs.dueStatuses("of the last one", x, "201001");
        ReactiveTicks all = Programs.fresh("emit0 emit1 par emit2 par emit3 par emit4 par emit5 par nothing test0");
        Check.due("all unknown", all.tick(0), STUCK);
        Programs.dueStatuses("all unknown", all, "222222");
    }

    private static void pausesThatAreOn() {
        Check.sentence("the pauses that are on are those that were started, and those that were on and stand in a "
            + "suspend that was resumed with its signal present");
        ReactiveTicks x = Programs.fresh("pause pause seq pause suspend0 par suspend1");
        x.tick(3);
        Programs.dueActive("started, though 0 and 1 are present", x, 7, 0, 3);
        x.tick(2);
        Programs.dueActive("the outer suspend holds both", x, 7, 0, 3);
        x.tick(1);
        Programs.dueActive("the inner one holds its own", x, 7, 1, 3);
        x.tick(3);
        Programs.dueActive("both hold", x, 7, 1, 3);
        x.tick(1);
        Programs.dueActive("what is not held goes off", x, 7, 3);
        Check.due("the last", x.tick(0), ENDED);
        Programs.dueActive("none is on", x, 7);
        ReactiveTicks never = Programs.fresh("pause pause seq suspend0");
        never.tick(0);
        never.tick(1);
        Programs.dueActive("one that was not on is not held", never, 4, 0);
    }

    private static void loopsThatWait() {
        Check.sentence("the loops that wait are those whose P finished with 0, and those that waited and stand in "
            + "a suspend that was resumed with its signal present");
        ReactiveTicks x = Programs.fresh("pause loop loop suspend0");
        x.tick(1);
        Programs.dueActive("P goes on", x, 4, 0);
        x.tick(0);
        Programs.dueActive("P of the inner one ended, that of the outer one did not", x, 4, 1);
        x.tick(1);
        Programs.dueActive("held", x, 4, 1);
        x.tick(0);
        Programs.dueActive("started again", x, 4, 0);
        x.tick(1);
        Programs.dueActive("held while P goes on", x, 4, 0);
        ReactiveTicks again = Programs.fresh("nothing loop");
        for (int i = 0; i < 3; i++) {
            again.tick(0);
            Programs.dueActive("P ends in each instant", again, 2, 1);
        }
        ReactiveTicks exits = Programs.fresh("exit0 loop trap pause seq");
        exits.tick(0);
        Programs.dueActive("P exits", exits, 5, 3);
    }

    private static void notThoseInAPar() {
        Check.sentence("but not those that stand in a par that itself finished with a code above 1, in whichever of "
            + "its parts");
        String[] exits = {"exit0", "exit1", "exit2"};
        for (int k = 0; k <= 2; k++) {
            dueStopped("pause " + exits[k] + " par");
            dueStopped(exits[k] + " pause par");
            dueStopped("nothing loop " + exits[k] + " par");
            dueStopped(exits[k] + " nothing loop par");
            dueStopped("pause " + exits[k] + " par pause par");
        }
        ReactiveTicks one = Programs.fresh("pause pause par trap pause seq");
        one.tick(0);
        Programs.dueActive("code 1 stops none", one, 6, 0, 1);
        ReactiveTicks held = Programs.fresh(
            "pause suspend0 nothing loop suspend0 par pause exit0 seq par trap pause seq");
        held.tick(0);
        Programs.dueActive("before", held, 13, 0, 3, 6);
        held.tick(1);
        Programs.dueActive("those that are held too", held, 13, 11);
        ReactiveTicks outside = Programs.fresh("pause exit0 par trap pause par");
        outside.tick(0);
        Programs.dueActive("those outside of it stay", outside, 6, 4);
    }

    private static void dueStopped(String words) {
        String whole = words + " trap trap trap";
        int size = whole.split(" ").length;
        ReactiveTicks x = Programs.fresh(whole + " pause seq");
        Programs.dueTick(words, x, 0, GOES_ON, 0);
        Programs.dueActive(words, x, size + 2, size);
    }

    private static void notThoseInATrap() {
        Check.sentence("or in a trap whose P finished with 2");
        ReactiveTicks x = Programs.fresh("pause exit0 par pause par trap pause seq");
        x.tick(0);
        Programs.dueActive("all in it", x, 8, 6);
        ReactiveTicks inner = Programs.fresh("pause exit0 par trap pause par trap");
        inner.tick(0);
        Programs.dueActive("a trap around it that it does not leave stops none", inner, 7, 4);
        ReactiveTicks outer = Programs.fresh("pause exit1 par trap pause par trap pause seq");
        outer.tick(0);
        Programs.dueActive("the outer one stops all in it", outer, 9, 7);
        ReactiveTicks one = Programs.fresh("pause nothing loop par trap");
        one.tick(0);
        Programs.dueActive("code 1 stops none", one, 5, 0, 2);
        ReactiveTicks looped = Programs.fresh("pause exit0 par trap loop");
        looped.tick(0);
        Programs.dueActive("the loop around it waits", looped, 5, 4);
    }

    private static void finishesWithZero() {
        Check.sentence("If the program finishes with 0 it has ENDED.");
        String[] ending = {
            "nothing", "emit0", "exit0 trap", "nothing nothing par", "nothing suspend0", "pause nothing test0",
        };
        for (String words : ending) {
            ReactiveTicks x = Programs.fresh(words);
            Check.due(words, x.tick(0), ENDED);
            Check.due("ended()", x.ended(), 1);
        }
        String[] going = {"pause", "nothing loop", "pause nothing par", "exit0 trap loop", "nothing pause test0"};
        for (String words : going) {
            ReactiveTicks x = Programs.fresh(words);
            Check.due(words, x.tick(0), GOES_ON);
            Check.due("ended()", x.ended(), 0);
        }
    }

    private static void numbers() {
        Check.sentence("each one that is made has a number, 0 for the first one made since the stack was last emptied");
        ReactiveTicks x = new ReactiveTicks();
        Check.due("the first", x.simple(0, 0), 0);
        Check.due("taken by a loop", x.one(0, 0), 1);
        Check.due("after a loop", x.simple(0, 0), 2);
        Check.due("taken by a par", x.two(1, 0), 3);
        Check.due("up to 15", x.simple(0, 0), 4);
        x.discard();
        Check.due("emptied by discard", x.simple(0, 0), 0);
        x.program();
        Check.due("emptied by program", x.simple(0, 0), 0);
        x.restart();
        x.tick(0);
        Check.due("not by restart or tick", x.simple(0, 0), 1);
    }
}
