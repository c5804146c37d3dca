/**
 * Programs told as words in the order in which they are put on the stack, such as
 * "pause emit0 seq loop": the place of a word, from 0, is its statement's number.
 */
final class Programs {
    private Programs() {
    }

    static ReactiveTicks fresh(String words) {
        ReactiveTicks x = new ReactiveTicks();
        load(x, words);
        return x;
    }

    static void load(ReactiveTicks x, String words) {
        int made = push(x, words);
        Check.due("program() after " + words, x.program(), made);
    }

    static int push(ReactiveTicks x, String words) {
        String[] parts = words.split(" ");
        for (int i = 0; i < parts.length; i++) {
            Check.due(parts[i] + " in " + words, pushWord(x, parts[i]), i);
        }
        return parts.length;
    }

    static int pushWord(ReactiveTicks x, String word) {
        String name = word.replaceAll("[0-9]", "");
        String digits = word.replaceAll("[^0-9]", "");
        int n = digits.isEmpty() ? 0 : Integer.parseInt(digits);
        switch (name) {
            case "nothing": return x.simple(0, n);
            case "pause": return x.simple(1, n);
            case "emit": return x.simple(2, n);
            case "exit": return x.simple(3, n);
            case "loop": return x.one(0, n);
            case "trap": return x.one(1, n);
            case "suspend": return x.one(2, n);
            case "seq": return x.two(0, n);
            case "par": return x.two(1, n);
            case "test": return x.two(2, n);
            default: throw new IllegalArgumentException(word);
        }
    }

    /** The statuses of signals 0 to 5 in the last instant, signal 0 first, as digits. */
    static void dueStatuses(String what, ReactiveTicks x, String want) {
        for (int s = 0; s < 6; s++) {
            Check.due(what + ", status(" + s + ")", x.status(s), want.charAt(s) - '0');
        }
    }

    /** Just the statements with these numbers are on or waiting. */
    static void dueActive(String what, ReactiveTicks x, int size, int... numbers) {
        for (int i = 0; i < size; i++) {
            int want = 0;
            for (int number : numbers) {
                if (number == i) {
                    want = 1;
                }
            }
            Check.due(what + ", active(" + i + ")", x.active(i), want);
        }
        Check.due(what + ", active(" + size + ")", x.active(size), ReactiveTicks.NONE);
    }

    /** Ticks once, and looks at the outcome and at the set of present signals beside the inputs. */
    static void dueTick(String what, ReactiveTicks x, int inputs, int outcome, int emitted) {
        Check.due(what + ", look(" + inputs + ")", x.look(inputs), outcome);
        Check.due(what + ", emitted(" + inputs + ")", x.emitted(inputs), emitted);
        Check.due(what + ", tick(" + inputs + ")", x.tick(inputs), outcome);
    }
}
