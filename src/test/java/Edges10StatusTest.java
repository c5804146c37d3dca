/** One method for each sentence of promise 10 that names an edge. */
public final class Edges10StatusTest {
    public static void main(String[] args) {
        threeStatuses();
        noneIfThereWasNone();
        noSuchSignal();
        ofTheLastInstant();
        ofWhateverProgram();
        Check.end();
    }

    private static void threeStatuses() {
        Check.sentence("1 present, 0 absent, 2 unknown");
        for (int s = 0; s < 6; s++) {
            int next = (s + 1) % 6;
            ReactiveTicks x = Programs.fresh("emit" + s + " nothing test" + s);
            Check.due("stuck", x.tick(1 << next), ReactiveTicks.STUCK);
            for (int t = 0; t < 6; t++) {
                Check.due("only " + s + " is unknown, status(" + t + ")", x.status(t), t == s ? 2 : t == next ? 1 : 0);
            }
        }
        ReactiveTicks all = Programs.fresh("pause");
        all.tick(63);
        Programs.dueStatuses("all are present", all, "111111");
        all.tick(0);
        Programs.dueStatuses("all are absent", all, "000000");
    }

    private static void noneIfThereWasNone() {
        Check.sentence("NONE if there was none");
        String[] pasts = {"", "restart", "discard", "emit0 emit1 par program", "pause", "exit0 program"};
        for (String past : pasts) {
            ReactiveTicks x = Twins.of(past).plain;
            for (int s = -1; s <= 6; s++) {
                Check.due("after " + past + ", status(" + s + ")", x.status(s), ReactiveTicks.NONE);
            }
            x.look(0);
            x.emitted(63);
            Check.due("a look is no instant", x.status(0), ReactiveTicks.NONE);
            Check.due("nor is a question", x.status(5), ReactiveTicks.NONE);
        }
    }

    private static void noSuchSignal() {
        Check.sentence("or s is not 0 to 5");
        ReactiveTicks none = new ReactiveTicks();
        ReactiveTicks present = new ReactiveTicks();
        present.tick(63);
        ReactiveTicks absent = new ReactiveTicks();
        absent.tick(0);
        ReactiveTicks unknown = Programs.fresh("emit0 nothing test0");
        unknown.tick(0);
        for (int s : Outside.upTo(5)) {
            Check.due("no instant, status(" + s + ")", none.status(s), ReactiveTicks.NONE);
            Check.due("present, status(" + s + ")", present.status(s), ReactiveTicks.NONE);
            Check.due("absent, status(" + s + ")", absent.status(s), ReactiveTicks.NONE);
            Check.due("stuck, status(" + s + ")", unknown.status(s), ReactiveTicks.NONE);
        }
        Check.due("status(0)", present.status(0), 1);
        Check.due("status(5)", present.status(5), 1);
    }

    private static void ofTheLastInstant() {
        Check.sentence("The status of signal s in the last instant");
        ReactiveTicks x = Programs.fresh("pause emit0 nothing test0 seq");
        x.tick(4);
        Programs.dueStatuses("the first", x, "001000");
        Check.due("stuck", x.tick(8), ReactiveTicks.STUCK);
        Programs.dueStatuses("a stuck one is the last too", x, "200100");
        Check.due("stuck", x.tick(16), ReactiveTicks.STUCK);
        Programs.dueStatuses("and the next stuck one", x, "200010");
        x.look(63);
        x.emitted(63);
        Programs.dueStatuses("a look is none", x, "200010");
        Check.due("not stuck", x.tick(1), ReactiveTicks.ENDED);
        Programs.dueStatuses("the last of all", x, "100000");
        Check.due("refused", x.tick(62), ReactiveTicks.NONE);
        Programs.dueStatuses("a refused tick is none", x, "100000");
    }

    private static void ofWhateverProgram() {
        Check.sentence("of whatever program");
        ReactiveTicks x = Programs.fresh("emit0 nothing test0 emit5 par");
        x.tick(8);
        Programs.dueStatuses("the old program's", x, "200101");
        x.restart();
        Programs.dueStatuses("restarted", x, "200101");
        Programs.push(x, "emit1 pause seq");
        Programs.dueStatuses("pushed", x, "200101");
        Check.due("program()", x.program(), 3);
        Programs.dueStatuses("a new program", x, "200101");
        x.look(0);
        Programs.dueStatuses("looked at", x, "200101");
        x.tick(0);
        Programs.dueStatuses("the new program's", x, "010000");
    }
}
