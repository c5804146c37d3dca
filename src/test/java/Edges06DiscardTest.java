/** One method for each part of promise 6, at its edges. */
public final class Edges06DiscardTest {
    public static void main(String[] args) {
        answersHowMany();
        empties();
        leavesTheProgram();
        Check.end();
    }

    private static void answersHowMany() {
        Check.sentence("answers how many there were");
        ReactiveTicks x = new ReactiveTicks();
        Check.due("none", x.discard(), 0);
        for (int many = 1; many <= 16; many++) {
            for (int i = 0; i < many; i++) {
                x.simple(3, 2);
            }
            Check.due("each is a bad exit, " + many, x.discard(), many);
        }
        Check.due("none again", x.discard(), 0);
        ReactiveTicks y = new ReactiveTicks();
        Programs.push(y, "pause loop loop loop loop loop loop loop loop loop loop loop loop loop loop loop");
        Check.due("16 made, one there", y.discard(), 1);
        Programs.push(y, "pause pause seq pause");
        Check.due("four made, two there", y.discard(), 2);
    }

    private static void empties() {
        Check.sentence("Empties the stack");
        Twins none = Twins.of("");
        none.asked.discard();
        none.dueAlike("discard of none");
        String[] rows = {
            "exit0", "pause pause", "emit0 loop", "exit2 trap exit1 par pause",
            "pause pause pause pause pause pause pause pause pause pause pause pause pause pause pause pause",
        };
        for (String row : rows) {
            Twins twins = Twins.of("");
            Programs.push(twins.asked, row);
            twins.asked.discard();
            twins.dueAlike("as if not pushed: " + row);
        }
    }

    private static void leavesTheProgram() {
        Check.sentence("Empties the stack; answers how many there were.");
        String[] pasts = {
            "pause emit1 seq nothing loop par suspend0 program tick0",
            "emit0 program tick0", "emit0 nothing test0 program tick0",
        };
        for (String past : pasts) {
            Twins twins = Twins.of(past);
            Programs.push(twins.asked, "pause exit0");
            Check.due("discard()", twins.asked.discard(), 2);
            twins.dueAlike("the program stays: " + past);
        }
    }
}
