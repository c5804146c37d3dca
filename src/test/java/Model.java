import java.util.ArrayList;
import java.util.List;
import java.util.Set;
import java.util.TreeSet;

/**
 * The document over again, written for nearness to its words: trees, sets and recursion. After an
 * instant is found out, it runs the program by the statuses instead of marking what was run.
 */
final class Model {
    private static final int SIGNALS = 6;
    private static final int MOST = 16;

    /** One statement; mark is its signal or its k. */
    private static final class Node {
        final String name;
        final int mark;
        final int number;
        final Node p;
        final Node q;
        boolean on;

        Node(String name, int mark, int number, Node p, Node q) {
            this.name = name;
            this.mark = mark;
            this.number = number;
            this.p = p;
            this.q = q;
        }

        void gather(List<Node> into) {
            if (p != null) {
                p.gather(into);
            }
            if (q != null) {
                q.gather(into);
            }
            into.add(this);
        }

        boolean isActive() {
            return on || (p != null && p.isActive()) || (q != null && q.isActive());
        }
    }

    /** The four sets. */
    private static final class Sets {
        final Set<Integer> mustEmit = new TreeSet<>();
        final Set<Integer> canEmit = new TreeSet<>();
        final Set<Integer> mustFinish = new TreeSet<>();
        final Set<Integer> canFinish = new TreeSet<>();

        static Sets finishing(int code) {
            Sets sets = new Sets();
            sets.mustFinish.add(code);
            sets.canFinish.add(code);
            return sets;
        }
    }

    private interface Recode {
        int of(int code);
    }

    private final List<Node> stack = new ArrayList<>();
    private int made;
    private Node program = new Node("nothing", 0, 0, null, null);
    private boolean first = true;
    private boolean over;
    private int instants;
    private int[] last;
    private int[] found;

    int simple(int op, int n) {
        boolean bad = op < 0 || op > 3 || (op == 2 && (n < 0 || n > 5)) || (op == 3 && (n < 0 || n > 2));
        if (bad) {
            return -1;
        }
        String[] names = {"nothing", "pause", "emit", "exit"};
        return made == MOST ? -2 : push(names[op], n, null, null);
    }

    int one(int op, int s) {
        if (op < 0 || op > 2 || (op == 2 && (s < 0 || s > 5))) {
            return -1;
        }
        if (made == MOST) {
            return -2;
        }
        if (stack.isEmpty()) {
            return -3;
        }
        String[] names = {"loop", "trap", "suspend"};
        return push(names[op], s, pop(), null);
    }

    int two(int op, int s) {
        if (op < 0 || op > 2 || (op == 2 && (s < 0 || s > 5))) {
            return -1;
        }
        if (made == MOST) {
            return -2;
        }
        if (stack.size() < 2) {
            return -3;
        }
        String[] names = {"seq", "par", "test"};
        Node q = pop();
        Node p = pop();
        return push(names[op], s, p, q);
    }

    int depth() {
        return stack.size();
    }

    int discard() {
        int size = stack.size();
        stack.clear();
        made = 0;
        return size;
    }

    int program() {
        if (stack.size() != 1) {
            return -3;
        }
        if (!exitsFit(stack.get(0), 0)) {
            return -5;
        }
        program = stack.get(0);
        discard();
        restart();
        return nodes().size();
    }

    void restart() {
        for (Node node : nodes()) {
            node.on = false;
        }
        first = true;
        over = false;
        instants = 0;
    }

    int tick(int inputs) {
        if (over) {
            return -4;
        }
        int outcome = look(inputs);
        last = found;
        if (outcome == 2) {
            return outcome;
        }
        Set<Node> next = new java.util.HashSet<>();
        int code = first ? runStarted(program, next) : runResumed(program, next);
        for (Node node : nodes()) {
            node.on = next.contains(node);
        }
        first = false;
        over = code == 0;
        instants++;
        return code;
    }

    int status(int s) {
        return last == null || s < 0 || s >= SIGNALS ? -4 : last[s];
    }

    int active(int number) {
        for (Node node : nodes()) {
            if (node.number == number) {
                return node.on ? 1 : 0;
            }
        }
        return -4;
    }

    int ended() {
        return over ? 1 : 0;
    }

    int instants() {
        return instants;
    }

    int look(int inputs) {
        if (over) {
            return -4;
        }
        found = new int[SIGNALS];
        for (int s = 0; s < SIGNALS; s++) {
            found[s] = (inputs >> s & 1) != 0 ? 1 : 2;
        }
        Sets sets = whole();
        while (findOneMore(sets)) {
            sets = whole();
        }
        for (int s = 0; s < SIGNALS; s++) {
            if (found[s] == 2) {
                return 2;
            }
        }
        if (sets.mustFinish.size() != 1 || !sets.mustFinish.equals(sets.canFinish)) {
            throw new IllegalStateException("just one code is due");
        }
        return sets.mustFinish.iterator().next();
    }

    int emitted(int inputs) {
        if (look(inputs) == -4) {
            return -4;
        }
        int set = 0;
        for (int s = 0; s < SIGNALS; s++) {
            if (found[s] == 1 && (inputs >> s & 1) == 0) {
                set |= 1 << s;
            }
        }
        return set;
    }

    private Node pop() {
        return stack.remove(stack.size() - 1);
    }

    private int push(String name, int mark, Node p, Node q) {
        stack.add(new Node(name, mark, made, p, q));
        return made++;
    }

    private List<Node> nodes() {
        List<Node> all = new ArrayList<>();
        program.gather(all);
        return all;
    }

    private static boolean exitsFit(Node node, int traps) {
        if (node == null) {
            return true;
        }
        int inside = node.name.equals("trap") ? traps + 1 : traps;
        boolean fits = !node.name.equals("exit") || traps > node.mark;
        return fits && exitsFit(node.p, inside) && exitsFit(node.q, inside);
    }

    private Sets whole() {
        return first ? started(program) : resumed(program);
    }

    // Only one signal a time: the order in which they are found out must not matter.
    private boolean findOneMore(Sets sets) {
        for (int s = SIGNALS - 1; s >= 0; s--) {
            if (found[s] == 2 && sets.mustEmit.contains(s)) {
                found[s] = 1;
                return true;
            }
            if (found[s] == 2 && !sets.canEmit.contains(s)) {
                found[s] = 0;
                return true;
            }
        }
        return false;
    }

    private Sets started(Node node) {
        switch (node.name) {
            case "nothing": return Sets.finishing(0);
            case "pause": return Sets.finishing(1);
            case "emit": {
                Sets sets = Sets.finishing(0);
                sets.mustEmit.add(node.mark);
                sets.canEmit.add(node.mark);
                return sets;
            }
            case "exit": return Sets.finishing(node.mark + 2);
            case "seq": return inTurn(started(node.p), node.q);
            case "par": return beside(started(node.p), started(node.q));
            case "loop": return recoded(started(node.p), code -> code == 0 ? 1 : code);
            case "trap": return recoded(started(node.p), Model::outOfTrap);
            case "test": return tested(node);
            default: return started(node.p);
        }
    }

    private Sets resumed(Node node) {
        switch (node.name) {
            case "pause": return Sets.finishing(0);
            case "seq": return node.p.isActive() ? inTurn(resumed(node.p), node.q) : resumed(node.q);
            case "par": {
                Sets p = node.p.isActive() ? resumed(node.p) : Sets.finishing(0);
                Sets q = node.q.isActive() ? resumed(node.q) : Sets.finishing(0);
                return beside(p, q);
            }
            case "loop": {
                Sets p = node.on ? started(node.p) : resumed(node.p);
                return recoded(p, code -> code == 0 ? 1 : code);
            }
            case "trap": return recoded(resumed(node.p), Model::outOfTrap);
            case "test": return node.p.isActive() ? resumed(node.p) : resumed(node.q);
            case "suspend": return suspended(node);
            default: throw new IllegalStateException(node.name + " is never active");
        }
    }

    private static int outOfTrap(int code) {
        return code == 2 ? 0 : code > 2 ? code - 1 : code;
    }

    private Sets inTurn(Sets p, Node second) {
        Sets q = started(second);
        if (p.mustFinish.contains(0)) {
            p.mustEmit.addAll(q.mustEmit);
            p.mustFinish.clear();
            p.mustFinish.addAll(q.mustFinish);
        }
        if (p.canFinish.contains(0)) {
            p.canEmit.addAll(q.canEmit);
            p.canFinish.remove(0);
            p.canFinish.addAll(q.canFinish);
        }
        return p;
    }

    private static Sets beside(Sets p, Sets q) {
        Sets both = new Sets();
        both.mustEmit.addAll(p.mustEmit);
        both.mustEmit.addAll(q.mustEmit);
        both.canEmit.addAll(p.canEmit);
        both.canEmit.addAll(q.canEmit);
        for (int a : p.mustFinish) {
            for (int b : q.mustFinish) {
                both.mustFinish.add(Math.max(a, b));
            }
        }
        for (int a : p.canFinish) {
            for (int b : q.canFinish) {
                both.canFinish.add(Math.max(a, b));
            }
        }
        return both;
    }

    private static Sets recoded(Sets p, Recode recode) {
        Sets sets = new Sets();
        sets.mustEmit.addAll(p.mustEmit);
        sets.canEmit.addAll(p.canEmit);
        for (int code : p.mustFinish) {
            sets.mustFinish.add(recode.of(code));
        }
        for (int code : p.canFinish) {
            sets.canFinish.add(recode.of(code));
        }
        return sets;
    }

    private Sets tested(Node node) {
        if (found[node.mark] == 1) {
            return started(node.p);
        }
        if (found[node.mark] == 0) {
            return started(node.q);
        }
        Sets p = started(node.p);
        Sets q = started(node.q);
        Sets sets = new Sets();
        sets.canEmit.addAll(p.canEmit);
        sets.canEmit.addAll(q.canEmit);
        sets.canFinish.addAll(p.canFinish);
        sets.canFinish.addAll(q.canFinish);
        return sets;
    }

    private Sets suspended(Node node) {
        if (found[node.mark] == 1) {
            return Sets.finishing(1);
        }
        Sets p = resumed(node.p);
        if (found[node.mark] == 0) {
            return p;
        }
        p.mustEmit.clear();
        p.mustFinish.clear();
        p.canFinish.add(1);
        return p;
    }

    private int runStarted(Node node, Set<Node> next) {
        switch (node.name) {
            case "nothing": return 0;
            case "emit": return 0;
            case "pause":
                next.add(node);
                return 1;
            case "exit": return node.mark + 2;
            case "seq": return runRest(runStarted(node.p, next), node, next);
            case "par": {
                int p = runStarted(node.p, next);
                return runBeside(node, p, runStarted(node.q, next), next);
            }
            case "loop": return runLoop(node, runStarted(node.p, next), next);
            case "trap": return runTrap(node, runStarted(node.p, next), next);
            case "test": return runStarted(found[node.mark] == 1 ? node.p : node.q, next);
            default: return runStarted(node.p, next);
        }
    }

    private int runResumed(Node node, Set<Node> next) {
        switch (node.name) {
            case "pause": return 0;
            case "seq":
                return node.p.isActive() ? runRest(runResumed(node.p, next), node, next) : runResumed(node.q, next);
            case "par": {
                int p = node.p.isActive() ? runResumed(node.p, next) : 0;
                int q = node.q.isActive() ? runResumed(node.q, next) : 0;
                return runBeside(node, p, q, next);
            }
            case "loop":
                return runLoop(node, node.on ? runStarted(node.p, next) : runResumed(node.p, next), next);
            case "trap": return runTrap(node, runResumed(node.p, next), next);
            case "test": return runResumed(node.p.isActive() ? node.p : node.q, next);
            case "suspend":
                if (found[node.mark] == 1) {
                    keep(node, next);
                    return 1;
                }
                return runResumed(node.p, next);
            default: throw new IllegalStateException(node.name + " is never active");
        }
    }

    private int runRest(int code, Node seq, Set<Node> next) {
        return code == 0 ? runStarted(seq.q, next) : code;
    }

    private static int runBeside(Node par, int p, int q, Set<Node> next) {
        int code = Math.max(p, q);
        if (code > 1) {
            drop(par, next);
        }
        return code;
    }

    private static int runLoop(Node loop, int code, Set<Node> next) {
        if (code == 0) {
            next.add(loop);
            return 1;
        }
        return code;
    }

    private static int runTrap(Node trap, int code, Set<Node> next) {
        if (code == 2) {
            drop(trap, next);
        }
        return outOfTrap(code);
    }

    private static void keep(Node node, Set<Node> next) {
        List<Node> inside = new ArrayList<>();
        node.gather(inside);
        for (Node each : inside) {
            if (each.on) {
                next.add(each);
            }
        }
    }

    private static void drop(Node node, Set<Node> next) {
        List<Node> inside = new ArrayList<>();
        node.gather(inside);
        next.removeAll(inside);
    }
}
