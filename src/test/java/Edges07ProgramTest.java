/** One method for each sentence of promise 7 that names an edge. */
public final class Edges07ProgramTest {
    private static final String FIFTEEN =
        "pause pause seq pause par pause test0 loop pause seq trap suspend5 pause par loop";

    public static void main(String[] args) {
        notJustOne();
        fewerTraps();
        someExit();
        trapsOfIt();
        order();
        howMany();
        firstInstant();
        stackEmptyAfterwards();
        withAllThatItIsMadeOf();
        Check.end();
    }

    private static void notJustOne() {
        Check.sentence("not just one statement answers TOO_FEW");
        ReactiveTicks x = new ReactiveTicks();
        Check.due("none", x.program(), ReactiveTicks.TOO_FEW);
        for (int many = 2; many <= 16; many++) {
            x.discard();
            for (int i = 0; i < many; i++) {
                x.simple(1, 0);
            }
            Check.due(many + " of them", x.program(), ReactiveTicks.TOO_FEW);
            Check.due("they are there still", x.depth(), many);
        }
        x.discard();
        Check.due("none after discard", x.program(), ReactiveTicks.TOO_FEW);
        x.simple(1, 0);
        Check.due("just one", x.program(), 1);
        Check.due("none after program", x.program(), ReactiveTicks.TOO_FEW);
        Programs.push(x, "pause pause");
        Check.due("two", x.program(), ReactiveTicks.TOO_FEW);
        Check.due("made one of", x.two(0, 0), 2);
        Check.due("just one of three", x.program(), 3);
    }

    private static void fewerTraps() {
        Check.sentence("some exit k in it lies in fewer than k + 1 traps of it answers BAD_EXIT");
        for (int k = 0; k <= 2; k++) {
            for (int traps = 0; traps <= 15; traps++) {
                ReactiveTicks x = new ReactiveTicks();
                x.simple(3, k);
                for (int i = 0; i < traps; i++) {
                    x.one(1, 0);
                }
                int want = traps < k + 1 ? ReactiveTicks.BAD_EXIT : traps + 1;
                Check.due("exit " + k + " in " + traps + " traps", x.program(), want);
            }
        }
        ReactiveTicks mended = new ReactiveTicks();
        mended.simple(3, 2);
        for (int traps = 0; traps < 3; traps++) {
            Check.due("a trap too few", mended.program(), ReactiveTicks.BAD_EXIT);
            Check.due("one trap more", mended.one(1, 0), traps + 1);
        }
        Check.due("enough", mended.program(), 4);
    }

    private static void someExit() {
        Check.sentence("some exit k in it");
        String[] wholes = {"seq", "par", "test0"};
        for (String whole : wholes) {
            dueProgram("exit0 trap exit0 " + whole, ReactiveTicks.BAD_EXIT);
            dueProgram("exit0 exit0 trap " + whole, ReactiveTicks.BAD_EXIT);
            dueProgram("exit0 trap exit0 trap " + whole, 5);
            dueProgram("exit0 exit1 " + whole + " trap", ReactiveTicks.BAD_EXIT);
            dueProgram("exit1 exit0 " + whole + " trap", ReactiveTicks.BAD_EXIT);
            dueProgram("exit0 exit0 " + whole + " trap", 4);
            dueProgram("exit1 trap exit0 " + whole + " trap", 5);
            dueProgram("exit1 trap exit1 " + whole + " trap", ReactiveTicks.BAD_EXIT);
        }
        dueProgram("pause loop exit0 seq", ReactiveTicks.BAD_EXIT);
        dueProgram("exit0 exit0 seq trap", 4);
        dueProgram("nothing", 1);
    }

    private static void trapsOfIt() {
        Check.sentence("traps of it");
        dueProgram("exit0 loop", ReactiveTicks.BAD_EXIT);
        dueProgram("exit0 suspend0", ReactiveTicks.BAD_EXIT);
        dueProgram("nothing trap exit0 seq", ReactiveTicks.BAD_EXIT);
        dueProgram("exit0 nothing trap seq", ReactiveTicks.BAD_EXIT);
        dueProgram("exit1 trap nothing trap par", ReactiveTicks.BAD_EXIT);
        dueProgram("nothing trap trap trap exit2 par trap", ReactiveTicks.BAD_EXIT);
        dueProgram("exit2 trap loop trap suspend0 trap", 6);

        ReactiveTicks discarded = new ReactiveTicks();
        Programs.push(discarded, "exit0 trap trap trap");
        discarded.discard();
        Programs.push(discarded, "exit0");
        Check.due("discarded traps are none", discarded.program(), ReactiveTicks.BAD_EXIT);

        ReactiveTicks old = Programs.fresh("exit2 trap trap trap");
        Programs.push(old, "exit0");
        Check.due("traps of the old program are none", old.program(), ReactiveTicks.BAD_EXIT);
    }

    private static void dueProgram(String words, int want) {
        ReactiveTicks x = new ReactiveTicks();
        Programs.push(x, words);
        Check.due("program() of " + words, x.program(), want);
    }

    private static void order() {
        Check.sentence("Tested in this order: not just one statement answers TOO_FEW; some exit k in it");
        dueProgram("exit0 exit0", ReactiveTicks.TOO_FEW);
        dueProgram("exit0 pause", ReactiveTicks.TOO_FEW);
        dueProgram("pause exit2", ReactiveTicks.TOO_FEW);
        dueProgram("exit0 exit0 par", ReactiveTicks.BAD_EXIT);
    }

    private static void howMany() {
        Check.sentence("Otherwise how many statements it has.");
        for (int many = 1; many <= 16; many++) {
            ReactiveTicks x = new ReactiveTicks();
            x.simple(1, 0);
            for (int i = 1; i < many; i++) {
                x.one(i % 3, 0);
            }
            Check.due(many + " statements", x.program(), many);
            Check.due("the last number", x.active(many - 1), 0);
            Check.due("the one after it", x.active(many), ReactiveTicks.NONE);
        }
        dueProgram(FIFTEEN + " trap", 16);
    }

    private static void firstInstant() {
        Check.sentence("the program is in its first instant");
        String[] pasts = {
            "", "pause nothing loop par suspend0 program tick0", "emit0 program tick0",
            "emit0 nothing test0 program tick0", "pause emit0 seq program tick0 tick1",
            "exit0 trap pause seq program tick0 tick0 tick0",
        };
        for (String past : pasts) {
            Twins twins = Twins.of("");
            for (String word : past.split(" ")) {
                if (!word.isEmpty()) {
                    Twins.play(twins.asked, word);
                }
            }
            Programs.load(twins.plain, "emit0 pause seq nothing loop par");
            Programs.load(twins.asked, "emit0 pause seq nothing loop par");
            Check.due("instants()", twins.asked.instants(), 0);
            Check.due("ended()", twins.asked.ended(), 0);
            Programs.dueActive("no pause is on, no loop waits", twins.asked, 6);
            twins.dueAlikeButStatuses("after " + past);
        }
    }

    private static void stackEmptyAfterwards() {
        Check.sentence("the stack is empty afterwards");
        ReactiveTicks x = Programs.fresh("pause loop");
        Check.due("depth()", x.depth(), 0);
        Check.due("discard()", x.discard(), 0);
        Check.due("one(0, 0)", x.one(0, 0), ReactiveTicks.TOO_FEW);
        Check.due("program()", x.program(), ReactiveTicks.TOO_FEW);
        Check.due("numbers begin with 0", x.simple(1, 0), 0);
        Check.due("two(0, 0)", x.two(0, 0), ReactiveTicks.TOO_FEW);
        Programs.dueActive("the program is there", x, 2);
    }

    private static void withAllThatItIsMadeOf() {
        Check.sentence("with all that it is made of");
        ReactiveTicks x = Programs.fresh("emit0 pause seq emit1 seq");
        // Whatever is pushed afterwards has the same numbers, but is not the program's.
        Programs.push(x, "emit5 emit5 emit5 emit5 emit5 emit5 emit5");
        Programs.dueTick("first", x, 0, ReactiveTicks.GOES_ON, 1);
        Programs.dueActive("its own pause", x, 5, 1);
        x.discard();
        Programs.push(x, "exit2");
        Check.due("a bad exit", x.program(), ReactiveTicks.BAD_EXIT);
        Programs.dueTick("second", x, 0, ReactiveTicks.ENDED, 2);
    }
}
