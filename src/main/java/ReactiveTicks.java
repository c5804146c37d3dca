public final class ReactiveTicks {
    public static final int BAD_ARG = -1;
    public static final int FULL = -2;
    public static final int TOO_FEW = -3;
    public static final int NONE = -4;
    public static final int BAD_EXIT = -5;
    public static final int ENDED = 0;
    public static final int GOES_ON = 1;
    public static final int STUCK = 2;

    private static final int SIGNALS = 6;
    private static final int ALL_SIGNALS = 63;
    private static final int MOST_STATEMENTS = 16;
    private static final int MOST_EXIT = 2;

    // The kinds of each making method stand in a row, in the order of its op.
    private static final int NOTHING = 0;
    private static final int PAUSE = 1;
    private static final int EMIT = 2;
    private static final int EXIT = 3;
    private static final int LOOP = 4;
    private static final int TRAP = 5;
    private static final int SUSPEND = 6;
    private static final int SEQ = 7;
    private static final int PAR = 8;
    private static final int TEST = 9;

    // A set of signals and a set of codes share one number: bit s is signal s,
    // bit 6 + c is code c. The rules for must and can are then nearly the same.
    private static final int CODE_0 = 64;
    private static final int CODE_1 = 128;
    private static final int CODE_2 = 256;
    private static final int ALL_CODES = 1984;
    private static final int CODES_ABOVE_1 = 1792;
    private static final int CODES_ABOVE_2 = 1536;

    // What is being put together. Parts are made before the whole, so a part's
    // number is always less than the number of what it stands in.
    private final int[] stack = new int[MOST_STATEMENTS];
    private final int[] newKind = new int[MOST_STATEMENTS];
    private final int[] newMark = new int[MOST_STATEMENTS];
    private final int[] newP = new int[MOST_STATEMENTS];
    private final int[] newQ = new int[MOST_STATEMENTS];
    private final int[] newWithin = new int[MOST_STATEMENTS];
    private int height;
    private int made;

    // The program. Mark is the signal or the k of a statement; within is the
    // set of the numbers of a statement and of all that it is made of.
    private final int[] kind = new int[MOST_STATEMENTS];
    private final int[] mark = new int[MOST_STATEMENTS];
    private final int[] partP = new int[MOST_STATEMENTS];
    private final int[] partQ = new int[MOST_STATEMENTS];
    private final int[] within = new int[MOST_STATEMENTS];
    private int size;

    // On is the set of the numbers of the pauses that are on and the loops that wait.
    private int on;
    private boolean inFirst;
    private boolean over;
    private int instantsDone;

    private boolean hadInstant;
    private int lastPresent;
    private int lastAbsent;

    // Used while an instant is found out; nothing in them outlives the call.
    private final int[] mustStarted = new int[MOST_STATEMENTS];
    private final int[] canStarted = new int[MOST_STATEMENTS];
    private final int[] mustResumed = new int[MOST_STATEMENTS];
    private final int[] canResumed = new int[MOST_STATEMENTS];
    private int present;
    private int absent;
    private int startedNow;
    private int resumedNow;

    public ReactiveTicks() {
        kind[0] = NOTHING;
        within[0] = 1;
        size = 1;
        inFirst = true;
    }

    public int simple(int op, int n) {
        if (op < 0 || op > 3) {
            return BAD_ARG;
        }
        if (op == EMIT && !isSignal(n)) {
            return BAD_ARG;
        }
        if (op == EXIT && (n < 0 || n > MOST_EXIT)) {
            return BAD_ARG;
        }
        if (made == MOST_STATEMENTS) {
            return FULL;
        }
        return push(NOTHING + op, n, 0, 0, 0);
    }

    public int one(int op, int s) {
        if (op < 0 || op > 2) {
            return BAD_ARG;
        }
        if (LOOP + op == SUSPEND && !isSignal(s)) {
            return BAD_ARG;
        }
        if (made == MOST_STATEMENTS) {
            return FULL;
        }
        if (height < 1) {
            return TOO_FEW;
        }
        int p = stack[height - 1];
        height -= 1;
        return push(LOOP + op, s, p, p, newWithin[p]);
    }

    public int two(int op, int s) {
        if (op < 0 || op > 2) {
            return BAD_ARG;
        }
        if (SEQ + op == TEST && !isSignal(s)) {
            return BAD_ARG;
        }
        if (made == MOST_STATEMENTS) {
            return FULL;
        }
        if (height < 2) {
            return TOO_FEW;
        }
        int p = stack[height - 2];
        int q = stack[height - 1];
        height -= 2;
        return push(SEQ + op, s, p, q, newWithin[p] | newWithin[q]);
    }

    public int depth() {
        return height;
    }

    public int discard() {
        int dropped = height;
        emptyStack();
        return dropped;
    }

    public int program() {
        if (height != 1) {
            return TOO_FEW;
        }
        if (!everyExitHasItsTraps()) {
            return BAD_EXIT;
        }
        // No statement is lost but by discard, so the one on the stack holds all that were made.
        size = made;
        for (int i = 0; i < size; i++) {
            kind[i] = newKind[i];
            mark[i] = newMark[i];
            partP[i] = newP[i];
            partQ[i] = newQ[i];
            within[i] = newWithin[i];
        }
        emptyStack();
        beginAgain();
        return size;
    }

    public void restart() {
        beginAgain();
    }

    public int tick(int inputs) {
        if (over) {
            return NONE;
        }
        findStatuses(inputs);
        hadInstant = true;
        lastPresent = present;
        lastAbsent = absent;
        int outcome = outcomeFound();
        if (outcome != STUCK) {
            moveOn();
            over = outcome == ENDED;
            instantsDone += 1;
        }
        return outcome;
    }

    public int status(int s) {
        if (!hadInstant || !isSignal(s)) {
            return NONE;
        }
        if (has(lastPresent, s)) {
            return 1;
        }
        return has(lastAbsent, s) ? 0 : 2;
    }

    public int active(int number) {
        if (number < 0 || number >= size) {
            return NONE;
        }
        return has(on, number) ? 1 : 0;
    }

    public int ended() {
        return over ? 1 : 0;
    }

    public int instants() {
        return instantsDone;
    }

    public int look(int inputs) {
        if (over) {
            return NONE;
        }
        findStatuses(inputs);
        return outcomeFound();
    }

    public int emitted(int inputs) {
        if (over) {
            return NONE;
        }
        findStatuses(inputs);
        return present & ~inputs;
    }

    private static boolean isSignal(int s) {
        return s >= 0 && s < SIGNALS;
    }

    private static boolean has(int set, int element) {
        return ((set >> element) & 1) != 0;
    }

    private int push(int newestKind, int newestMark, int p, int q, int inParts) {
        int number = made;
        newKind[number] = newestKind;
        newMark[number] = newestMark;
        newP[number] = p;
        newQ[number] = q;
        newWithin[number] = inParts | (1 << number);
        made += 1;
        stack[height] = number;
        height += 1;
        return number;
    }

    private void emptyStack() {
        height = 0;
        made = 0;
    }

    private boolean everyExitHasItsTraps() {
        for (int i = 0; i < made; i++) {
            if (newKind[i] == EXIT) {
                int traps = trapsAround(i);
                if (traps < newMark[i] + 1) {
                    return false;
                }
            }
        }
        return true;
    }

    private int trapsAround(int number) {
        int traps = 0;
        for (int i = 0; i < made; i++) {
            if (newKind[i] == TRAP && has(newWithin[i], number)) {
                traps += 1;
            }
        }
        return traps;
    }

    private void beginAgain() {
        on = 0;
        inFirst = true;
        over = false;
        instantsDone = 0;
    }

    private void findStatuses(int inputs) {
        present = inputs & ALL_SIGNALS;
        absent = 0;
        boolean changed = true;
        // Each round but the last finds out a signal, so one more than there are signals is enough.
        for (int round = 0; round <= SIGNALS && changed; round++) {
            lookAtProgram();
            int whole = size - 1;
            int must = inFirst ? mustStarted[whole] : mustResumed[whole];
            int can = inFirst ? canStarted[whole] : canResumed[whole];
            int unknown = ALL_SIGNALS & ~present & ~absent;
            int nowPresent = unknown & must;
            int nowAbsent = unknown & ~can;
            present |= nowPresent;
            absent |= nowAbsent;
            changed = (nowPresent | nowAbsent) != 0;
        }
    }

    private int outcomeFound() {
        if ((present | absent) != ALL_SIGNALS) {
            return STUCK;
        }
        int whole = size - 1;
        int must = inFirst ? mustStarted[whole] : mustResumed[whole];
        return (must & CODE_0) != 0 ? ENDED : GOES_ON;
    }

    private void lookAtProgram() {
        for (int i = 0; i < size; i++) {
            mustStarted[i] = setsStarted(i, mustStarted, true);
            canStarted[i] = setsStarted(i, canStarted, false);
            mustResumed[i] = setsResumed(i, mustStarted, mustResumed, true);
            canResumed[i] = setsResumed(i, canStarted, canResumed, false);
        }
    }

    private int setsStarted(int i, int[] started, boolean must) {
        int p = started[partP[i]];
        int q = started[partQ[i]];
        switch (kind[i]) {
            case PAUSE:
                return CODE_1;
            case EMIT:
                return CODE_0 | (1 << mark[i]);
            case EXIT:
                return CODE_2 << mark[i];
            case LOOP:
                return oneForZero(p);
            case TRAP:
                return outOfTrap(p);
            case SUSPEND:
                return p;
            case SEQ:
                return inTurn(p, q);
            case PAR:
                return together(p, q);
            case TEST:
                return branch(mark[i], p, q, must);
            default:
                return CODE_0;
        }
    }

    private int setsResumed(int i, int[] started, int[] resumed, boolean must) {
        // A par takes an inactive part as one that ends silently; elsewhere this is not asked for.
        if (!isActive(i)) {
            return CODE_0;
        }
        int p = partP[i];
        int q = partQ[i];
        switch (kind[i]) {
            case LOOP:
                return has(on, i) ? oneForZero(started[p]) : oneForZero(resumed[p]);
            case TRAP:
                return outOfTrap(resumed[p]);
            case SUSPEND:
                return heldBack(mark[i], resumed[p], must);
            case SEQ:
                return isActive(p) ? inTurn(resumed[p], started[q]) : resumed[q];
            case PAR:
                return together(resumed[p], resumed[q]);
            case TEST:
                return isActive(p) ? resumed[p] : resumed[q];
            default:
                return CODE_0;
        }
    }

    private boolean isActive(int i) {
        return (on & within[i]) != 0;
    }

    private static int oneForZero(int sets) {
        return (sets & CODE_0) != 0 ? (sets & ~CODE_0) | CODE_1 : sets;
    }

    private static int outOfTrap(int sets) {
        int kept = sets & (ALL_SIGNALS | CODE_0 | CODE_1);
        int caught = (sets & CODE_2) != 0 ? CODE_0 : 0;
        int furtherOut = (sets & CODES_ABOVE_2) >> 1;
        return kept | caught | furtherOut;
    }

    private static int inTurn(int p, int q) {
        return (p & CODE_0) != 0 ? (p & ~CODE_0) | q : p;
    }

    private static int together(int p, int q) {
        int signals = (p | q) & ALL_SIGNALS;
        int codesP = p & ALL_CODES;
        int codesQ = q & ALL_CODES;
        if (codesP == 0 || codesQ == 0) {
            return signals;
        }
        int leastP = codesP & -codesP;
        int leastQ = codesQ & -codesQ;
        // A code can be the greater one of a pair just if neither part has all its codes above it.
        int floor = leastP > leastQ ? leastP : leastQ;
        return signals | ((codesP | codesQ) & -floor);
    }

    private int branch(int s, int p, int q, boolean must) {
        if (has(present, s)) {
            return p;
        }
        if (has(absent, s)) {
            return q;
        }
        return must ? 0 : p | q;
    }

    private int heldBack(int s, int p, boolean must) {
        if (has(present, s)) {
            return CODE_1;
        }
        if (has(absent, s)) {
            return p;
        }
        return must ? 0 : p | CODE_1;
    }

    private void moveOn() {
        int whole = size - 1;
        startedNow = inFirst ? 1 << whole : 0;
        resumedNow = inFirst ? 0 : 1 << whole;
        int next = 0;
        int stopped = 0;
        // Downwards, so that a statement is known to run before its parts are come to.
        for (int i = whole; i >= 0; i--) {
            if (has(startedNow, i)) {
                runPartsOfStarted(i);
            } else if (has(resumedNow, i)) {
                runPartsOfResumed(i);
            }
            if (has(startedNow | resumedNow, i)) {
                next |= onAfter(i);
                stopped |= stoppedBy(i);
            }
        }
        on = next & ~stopped;
        inFirst = false;
    }

    private void runPartsOfStarted(int i) {
        int p = partP[i];
        int q = partQ[i];
        switch (kind[i]) {
            case LOOP:
            case TRAP:
            case SUSPEND:
                start(p);
                break;
            case SEQ:
                start(p);
                startIfEnded(p, q);
                break;
            case PAR:
                start(p);
                start(q);
                break;
            case TEST:
                if (has(present, mark[i])) {
                    start(p);
                } else {
                    start(q);
                }
                break;
            default:
                break;
        }
    }

    private void runPartsOfResumed(int i) {
        int p = partP[i];
        int q = partQ[i];
        switch (kind[i]) {
            case LOOP:
                if (has(on, i)) {
                    start(p);
                } else {
                    resumeIfActive(p);
                }
                break;
            case SUSPEND:
                if (has(absent, mark[i])) {
                    resumeIfActive(p);
                }
                break;
            case SEQ:
                resumeIfActive(q);
                if (isActive(p)) {
                    resumeIfActive(p);
                    startIfEnded(p, q);
                }
                break;
            case TRAP:
            case PAR:
            case TEST:
                resumeIfActive(p);
                resumeIfActive(q);
                break;
            default:
                break;
        }
    }

    private void start(int i) {
        startedNow |= 1 << i;
    }

    private void resumeIfActive(int i) {
        if (isActive(i)) {
            resumedNow |= 1 << i;
        }
    }

    private void startIfEnded(int p, int q) {
        if ((codesNow(p) & CODE_0) != 0) {
            start(q);
        }
    }

    private int codesNow(int i) {
        int sets = has(startedNow, i) ? mustStarted[i] : mustResumed[i];
        return sets & ALL_CODES;
    }

    private int onAfter(int i) {
        switch (kind[i]) {
            case PAUSE:
                return startedNow & (1 << i);
            case LOOP:
                return (codesNow(partP[i]) & CODE_0) != 0 ? 1 << i : 0;
            case SUSPEND:
                return has(resumedNow, i) && has(present, mark[i]) ? on & within[i] : 0;
            default:
                return 0;
        }
    }

    private int stoppedBy(int i) {
        if (kind[i] == PAR && (codesNow(i) & CODES_ABOVE_1) != 0) {
            return within[i];
        }
        if (kind[i] == TRAP && (codesNow(partP[i]) & CODE_2) != 0) {
            return within[i];
        }
        return 0;
    }
}
