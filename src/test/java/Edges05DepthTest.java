/** Promise 5 at its edges: an empty stack, a full one, and calls that must not count. */
public final class Edges05DepthTest {
    public static void main(String[] args) {
        fromEmptyToFull();
        onTheStackNotMade();
        refusedCallsDoNotCount();
        Check.end();
    }

    private static void fromEmptyToFull() {
        Check.sentence("How many statements are on the stack.");
        ReactiveTicks x = new ReactiveTicks();
        Check.due("empty", x.depth(), 0);
        for (int i = 1; i <= 16; i++) {
            x.simple(1, 0);
            Check.due("after " + i, x.depth(), i);
        }
        Check.due("the 17th", x.simple(1, 0), ReactiveTicks.FULL);
        Check.due("the most", x.depth(), 16);
        x.discard();
        Check.due("discarded", x.depth(), 0);
        x.discard();
        Check.due("discarded again", x.depth(), 0);
        x.simple(1, 0);
        x.program();
        Check.due("made the program", x.depth(), 0);
    }

    private static void onTheStackNotMade() {
        Check.sentence("How many statements are on the stack.");
        ReactiveTicks x = new ReactiveTicks();
        Programs.push(x, "pause pause pause");
        Check.due("three made", x.depth(), 3);
        x.one(0, 0);
        Check.due("four made", x.depth(), 3);
        x.two(0, 0);
        Check.due("five made", x.depth(), 2);
        x.two(1, 0);
        Check.due("six made", x.depth(), 1);
        Check.due("all six are the program", x.program(), 6);
    }

    private static void refusedCallsDoNotCount() {
        Check.sentence("How many statements are on the stack.");
        ReactiveTicks x = new ReactiveTicks();
        x.one(0, 0);
        x.two(0, 0);
        x.program();
        Check.due("empty, refused", x.depth(), 0);
        Programs.push(x, "exit0");
        x.simple(4, 0);
        x.one(3, 0);
        x.two(0, 0);
        x.program();
        Check.due("one, refused", x.depth(), 1);
        x.simple(1, 0);
        x.simple(2, 6);
        x.one(2, 6);
        x.two(2, 6);
        x.program();
        Check.due("two, refused", x.depth(), 2);
    }
}
