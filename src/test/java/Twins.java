/**
 * Two objects with the same past. One of them is then asked for more than the other; where that
 * must change nothing, the two answer alike ever after.
 */
final class Twins {
    private static final int[] SOME_INPUTS = {0, 1, 2, 4, 8, 16, 32, 63};

    final ReactiveTicks plain = new ReactiveTicks();
    final ReactiveTicks asked = new ReactiveTicks();

    interface Call {
        int on(ReactiveTicks x);
    }

    /** Each word is a statement's, or "program", "discard", "restart", or "tick" and its inputs. */
    static Twins of(String words) {
        Twins twins = new Twins();
        if (!words.isEmpty()) {
            for (String word : words.split(" ")) {
                play(twins.plain, word);
                play(twins.asked, word);
            }
        }
        return twins;
    }

    static int play(ReactiveTicks x, String word) {
        if (word.startsWith("tick")) {
            return x.tick(Integer.parseInt(word.substring(4)));
        }
        switch (word) {
            case "program": return x.program();
            case "discard": return x.discard();
            case "restart":
                x.restart();
                return 0;
            default: return Programs.pushWord(x, word);
        }
    }

    void dueBoth(String what, Call call) {
        Check.due(what, call.on(asked), call.on(plain));
    }

    /** All that can be asked is answered alike now, and from now on. */
    void dueAlike(String what) {
        dueStatusesAlike(what);
        dueAlikeButStatuses(what);
    }

    /** The same, but the last instants may have been different ones. */
    void dueAlikeButStatuses(String what) {
        dueStateAlike(what);
        dueStackAlike(what);
        // An instant that each of them has makes the last ones alike again.
        dueRunAlike(what + ", later");
        dueStackProgramAlike(what);
    }

    private void dueStatusesAlike(String what) {
        for (int i = -1; i <= 6; i++) {
            int s = i;
            dueBoth(what + ", status(" + s + ")", x -> x.status(s));
        }
    }

    private void dueStateAlike(String what) {
        dueBoth(what + ", ended()", ReactiveTicks::ended);
        dueBoth(what + ", instants()", ReactiveTicks::instants);
        for (int i = -1; i <= 16; i++) {
            int number = i;
            dueBoth(what + ", active(" + number + ")", x -> x.active(number));
        }
        for (int inputs : SOME_INPUTS) {
            dueBoth(what + ", look(" + inputs + ")", x -> x.look(inputs));
            dueBoth(what + ", emitted(" + inputs + ")", x -> x.emitted(inputs));
        }
    }

    private void dueRunAlike(String what) {
        for (int inputs : SOME_INPUTS) {
            dueBoth(what + ", tick(" + inputs + ")", x -> x.tick(inputs));
        }
        dueStateAlike(what);
        dueBoth(what + ", restart(), tick(0)", x -> {
            x.restart();
            return x.tick(0);
        });
        dueStatusesAlike(what);
    }

    private void dueStackAlike(String what) {
        dueBoth(what + ", depth()", ReactiveTicks::depth);
    }

    /** What stands on the stack shows only as a program: pars and traps make it one where there is room. */
    private void dueStackProgramAlike(String what) {
        dueBoth(what + ", program()", ReactiveTicks::program);
        for (int i = 0; i < 16; i++) {
            dueBoth(what + ", two(1, 0)", x -> x.two(1, 0));
        }
        for (int i = 0; i < 3; i++) {
            dueBoth(what + ", one(1, 0)", x -> x.one(1, 0));
        }
        dueBoth(what + ", program() of what the stack holds", ReactiveTicks::program);
        dueStateAlike(what + ", what the stack holds");
        dueBoth(what + ", discard()", ReactiveTicks::discard);
        dueBoth(what + ", simple(0, 0)", x -> x.simple(0, 0));
    }
}
