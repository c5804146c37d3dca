public final class Promise05DepthTest {
    public static void main(String[] args) {
        ReactiveTicks x = new ReactiveTicks();
        Check.due("empty", x.depth(), 0);
        for (int i = 1; i <= 5; i++) {
            x.simple(1, 0);
            Check.due("after simple " + i, x.depth(), i);
        }
        x.one(0, 0);
        Check.due("one leaves it", x.depth(), 5);
        x.two(0, 0);
        Check.due("two takes one away", x.depth(), 4);
        x.simple(9, 9);
        x.one(9, 9);
        x.two(9, 9);
        x.program();
        Check.due("refused calls leave it", x.depth(), 4);
        x.tick(0);
        x.restart();
        x.look(0);
        x.emitted(0);
        Check.due("running leaves it", x.depth(), 4);
        x.discard();
        Check.due("after discard", x.depth(), 0);
        x.simple(0, 0);
        x.program();
        Check.due("after program", x.depth(), 0);
        for (int i = 0; i < 17; i++) {
            x.simple(0, 0);
        }
        Check.due("at most 16", x.depth(), 16);
        Check.end();
    }
}
