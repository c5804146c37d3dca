/** One method for each sentence of promise 14 that names an edge. */
public final class Edges14LookTest {
    public static void main(String[] args) {
        asATickWould();
        noneAfterTheEnd();
        changesNothing();
        Check.end();
    }

    private static void asATickWould() {
        Check.sentence("What would become of an instant with these input signals");
        String[] programs = {
            "nothing", "pause", "emit0 pause test0", "pause nothing test1 emit2 nothing test2 par",
            "pause suspend3 emit3 seq", "pause emit0 nothing test0 seq",
        };
        for (String words : programs) {
            for (int inputs = 0; inputs < 64; inputs++) {
                ReactiveTicks x = Programs.fresh(words);
                dueAsTick(words + ", first", x, inputs);
                x.restart();
                x.tick(2);
                dueAsTick(words + ", later", x, inputs);
            }
        }
        ReactiveTicks all = Programs.fresh("pause emit0 nothing test0 seq");
        Check.due("it goes on", all.look(0), ReactiveTicks.GOES_ON);
        all.tick(0);
        Check.due("it is stuck", all.look(0), ReactiveTicks.STUCK);
        Check.due("it ends", all.look(1), ReactiveTicks.ENDED);
    }

    private static void dueAsTick(String what, ReactiveTicks x, int inputs) {
        int looked = x.look(inputs);
        Check.due(what + ", look(" + inputs + ")", looked, x.tick(inputs));
    }

    private static void noneAfterTheEnd() {
        Check.sentence("NONE if the program has ended");
        String[] pasts = {"tick0", "emit0 program tick0", "pause program tick0 tick0", "exit0 trap program tick0"};
        for (String past : pasts) {
            ReactiveTicks x = Twins.of(past).plain;
            for (int inputs = 0; inputs < 64; inputs++) {
                Check.due("look(" + inputs + ") after " + past, x.look(inputs), ReactiveTicks.NONE);
            }
            Check.due("look(-1)", x.look(-1), ReactiveTicks.NONE);
            x.restart();
            Check.due("not when restarted", x.look(0) == ReactiveTicks.NONE ? 1 : 0, 0);
        }
        ReactiveTicks looked = new ReactiveTicks();
        Check.due("it would end", looked.look(0), ReactiveTicks.ENDED);
        Check.due("but has not ended", looked.look(0), ReactiveTicks.ENDED);
    }

    private static void changesNothing() {
        Check.sentence("Changes nothing.");
        String[] pasts = {
            "", "tick5", "pause emit1 seq nothing loop par suspend0 program",
            "pause emit1 seq nothing loop par suspend0 program tick0",
            "emit0 nothing test0 program tick0", "pause emit0 nothing test0 seq program tick4",
            "pause exit0 seq trap program pause exit0 trap seq", "pause program tick0",
        };
        for (String past : pasts) {
            Twins twins = Twins.of(past);
            for (int inputs = 0; inputs < 64; inputs++) {
                twins.asked.look(inputs);
            }
            twins.asked.look(-1);
            twins.dueAlike("looked at after " + past);
        }
    }
}
