/** One method for each sentence of promise 15 that names an edge. */
public final class Edges15EmittedTest {
    public static void main(String[] args) {
        otherThanInputs();
        ifNotStuck();
        ifStuck();
        ifStuckOtherThanInputs();
        noneAfterTheEnd();
        changesNothing();
        Check.end();
    }

    private static void otherThanInputs() {
        Check.sentence("The set of the signals (other than those of inputs)");
        ReactiveTicks none = Programs.fresh("pause");
        ReactiveTicks all = Programs.fresh("emit0 emit1 par emit2 par emit3 par emit4 par emit5 par");
        ReactiveTicks some = Programs.fresh("emit0 emit5 seq");
        for (int inputs = 0; inputs < 64; inputs++) {
            Check.due("none, emitted(" + inputs + ")", none.emitted(inputs), 0);
            Check.due("all, emitted(" + inputs + ")", all.emitted(inputs), 63 & ~inputs);
            Check.due("0 and 5, emitted(" + inputs + ")", some.emitted(inputs), 33 & ~inputs);
        }
    }

    private static void ifNotStuck() {
        Check.sentence("that would be present in an instant with these input signals, if it would not be stuck");
        ReactiveTicks x = Programs.fresh("emit1 emit2 test0 pause seq emit5 nothing test3 seq");
        Check.due("without 0", x.emitted(0), 4);
        Check.due("with 0", x.emitted(1), 2);
        Check.due("3 is for the next instant", x.emitted(8), 4);
        x.tick(0);
        Check.due("not those of the first", x.emitted(1), 0);
        Check.due("with 3", x.emitted(8), 32);
        for (int inputs = 0; inputs < 64; inputs++) {
            int found = x.emitted(inputs);
            ReactiveTicks y = Programs.fresh("emit1 emit2 test0 pause seq emit5 nothing test3 seq");
            y.tick(0);
            y.tick(inputs);
            for (int s = 0; s < 6; s++) {
                int want = (((found | inputs) >> s) & 1);
                Check.due("status(" + s + ") with " + inputs, y.status(s), want);
            }
        }
    }

    private static void ifStuck() {
        Check.sentence("else those that would be found present before it is");
        ReactiveTicks x = Programs.fresh("emit1 emit2 nothing test2 seq emit4 nothing test1 par emit5 par");
        Check.due("stuck", x.look(0), ReactiveTicks.STUCK);
        Check.due("those that must be, not those that can", x.emitted(0), 2 + 16 + 32);
        Check.due("inputs are not among them", x.emitted(2 + 8), 16 + 32);
        Check.due("all of them are inputs", x.emitted(2 + 16 + 32), 0);
        ReactiveTicks none = Programs.fresh("emit0 nothing test0");
        Check.due("stuck at once", none.look(62), ReactiveTicks.STUCK);
        Check.due("none is found", none.emitted(0), 0);
        Check.due("none but inputs", none.emitted(62), 0);
        ReactiveTicks later = Programs.fresh("pause emit3 seq emit0 nothing test0 seq");
        Check.due("before", later.emitted(0), 0);
        later.tick(0);
        Check.due("stuck later", later.look(0), ReactiveTicks.STUCK);
        Check.due("found before it is", later.emitted(0), 8);
        Check.due("not stuck", later.emitted(1), 8);
    }

    /** "Those" are signals other than those of inputs too. */
    private static void ifStuckOtherThanInputs() {
        Check.sentence("else those that would be found present before it is");
        String words = "emit1 emit2 nothing test2 seq emit4 nothing test1 par emit5 par emit3 emit0 test4 par";
        for (int inputs = 0; inputs < 64; inputs++) {
            ReactiveTicks x = Programs.fresh(words);
            int found = x.emitted(inputs);
            boolean stuck = (inputs & 4) == 0;
            Check.due("stuck with " + inputs, x.look(inputs) == ReactiveTicks.STUCK ? 1 : 0, stuck ? 1 : 0);
            x.tick(inputs);
            int present = 0;
            for (int s = 0; s < 6; s++) {
                present |= x.status(s) == 1 ? 1 << s : 0;
            }
            Check.due("present with " + inputs, present, 2 + 8 + 16 + 32 | inputs);
            Check.due("emitted(" + inputs + ")", found, present & ~inputs);
        }
    }

    private static void noneAfterTheEnd() {
        Check.sentence("NONE if the program has ended");
        String[] pasts = {"tick0", "emit0 program tick0", "pause program tick0 tick0", "exit0 trap program tick0"};
        for (String past : pasts) {
            ReactiveTicks x = Twins.of(past).plain;
            for (int inputs = 0; inputs < 64; inputs++) {
                Check.due("emitted(" + inputs + ") after " + past, x.emitted(inputs), ReactiveTicks.NONE);
            }
            Check.due("emitted(-1)", x.emitted(-1), ReactiveTicks.NONE);
            x.restart();
            Check.due("not when restarted", x.emitted(1), 0);
        }
        ReactiveTicks asked = Programs.fresh("emit0");
        Check.due("it would end", asked.emitted(0), 1);
        Check.due("but has not ended", asked.emitted(0), 1);
    }

    private static void changesNothing() {
        Check.sentence("Changes nothing.");
        String[] pasts = {
            "", "tick5", "pause emit1 seq nothing loop par suspend0 program",
            "pause emit1 seq nothing loop par suspend0 program tick0",
            "emit0 nothing test0 program tick0", "pause emit0 nothing test0 seq program tick4",
            "pause exit0 seq trap program pause exit0 trap seq", "pause program tick0",
        };
        for (String past : pasts) {
            Twins twins = Twins.of(past);
            for (int inputs = 0; inputs < 64; inputs++) {
                twins.asked.emitted(inputs);
            }
            twins.asked.emitted(-1);
            twins.dueAlike("asked after " + past);
        }
    }
}
