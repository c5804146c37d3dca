public final class Promise01NewObjectTest {
    public static void main(String[] args) {
        ReactiveTicks x = new ReactiveTicks();
        Check.due("new, depth()", x.depth(), 0);
        Check.due("new, ended()", x.ended(), 0);
        Check.due("new, instants()", x.instants(), 0);
        Check.due("new, active(0)", x.active(0), 0);
        Check.due("new, active(1)", x.active(1), ReactiveTicks.NONE);
        for (int s = -1; s < 7; s++) {
            Check.due("new, status(" + s + ")", x.status(s), ReactiveTicks.NONE);
        }
        Check.due("new, look(0)", x.look(0), ReactiveTicks.ENDED);
        Check.due("new, emitted(63)", x.emitted(63), 0);
        Check.due("new, program()", x.program(), ReactiveTicks.TOO_FEW);
        Check.due("new, one(0, 0)", x.one(0, 0), ReactiveTicks.TOO_FEW);
        Check.due("new, tick(5)", x.tick(5), ReactiveTicks.ENDED);
        Programs.dueStatuses("new, after tick(5)", x, "101000");
        Check.due("new, ended() after it", x.ended(), 1);

        ReactiveTicks other = new ReactiveTicks();
        Check.due("two objects share nothing", other.ended(), 0);
        Check.due("the first statement made has number 0", other.simple(0, 0), 0);
        Check.end();
    }
}
