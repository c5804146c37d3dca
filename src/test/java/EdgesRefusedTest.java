import java.util.LinkedHashMap;
import java.util.Map;

/** "A refused call answers the code named and changes nothing.", for every refusal in many states. */
public final class EdgesRefusedTest {
    private static final String LOOPS = " loop loop loop loop loop loop loop loop loop loop loop loop loop loop loop";
    private static final String RUNNING = "pause emit1 seq nothing loop par suspend0 program tick0 ";
    private static final String OVER = "emit2 program tick1 ";
    private static final String STUCK = "pause emit0 nothing test0 seq program tick0 tick4 ";
    private static final String[] PROGRAMS = {"", RUNNING, OVER, STUCK};

    public static void main(String[] args) {
        Check.sentence("A refused call answers the code named and changes nothing.");
        for (String program : PROGRAMS) {
            badArguments(program);
            full(program);
            tooFew(program);
            badExit(program);
            none(program);
        }
        noneOfAnEndedProgram();
        noneWithoutAnInstant();
        Check.end();
    }

    private static void dueRefused(String past, int code, Map<String, Twins.Call> calls) {
        for (Map.Entry<String, Twins.Call> call : calls.entrySet()) {
            Twins twins = Twins.of(past.trim());
            Check.due(call.getKey() + " after " + past, call.getValue().on(twins.asked), code);
            Check.due(call.getKey() + " again after " + past, call.getValue().on(twins.asked), code);
            twins.dueAlike(call.getKey() + " refused after " + past);
        }
    }

    private static void badArguments(String program) {
        Map<String, Twins.Call> calls = new LinkedHashMap<>();
        calls.put("simple(-1, 0)", x -> x.simple(-1, 0));
        calls.put("simple(4, 0)", x -> x.simple(4, 0));
        calls.put("simple(2, -1)", x -> x.simple(2, -1));
        calls.put("simple(2, 6)", x -> x.simple(2, 6));
        calls.put("simple(3, -1)", x -> x.simple(3, -1));
        calls.put("simple(3, 3)", x -> x.simple(3, 3));
        calls.put("one(-1, 0)", x -> x.one(-1, 0));
        calls.put("one(3, 0)", x -> x.one(3, 0));
        calls.put("one(2, -1)", x -> x.one(2, -1));
        calls.put("one(2, 6)", x -> x.one(2, 6));
        calls.put("two(-1, 0)", x -> x.two(-1, 0));
        calls.put("two(3, 0)", x -> x.two(3, 0));
        calls.put("two(2, -1)", x -> x.two(2, -1));
        calls.put("two(2, 6)", x -> x.two(2, 6));
        String[] stacks = {"", "emit3", "emit3 exit1", "emit3 pause emit4 seq", "emit3" + LOOPS};
        for (String stack : stacks) {
            dueRefused(program + stack, ReactiveTicks.BAD_ARG, calls);
        }
    }

    private static void full(String program) {
        Map<String, Twins.Call> calls = new LinkedHashMap<>();
        calls.put("simple(0, 0)", x -> x.simple(0, 0));
        calls.put("simple(2, 5)", x -> x.simple(2, 5));
        calls.put("one(0, 0)", x -> x.one(0, 0));
        calls.put("one(2, 5)", x -> x.one(2, 5));
        calls.put("two(0, 0)", x -> x.two(0, 0));
        calls.put("two(2, 5)", x -> x.two(2, 5));
        dueRefused(program + "emit3" + LOOPS, ReactiveTicks.FULL, calls);
        dueRefused(program + "exit0" + LOOPS, ReactiveTicks.FULL, calls);
        String two = "emit3 pause seq emit4 seq emit5 trap loop suspend0 loop trap loop suspend0 loop trap loop";
        dueRefused(program + two, ReactiveTicks.FULL, calls);
    }

    private static void tooFew(String program) {
        Map<String, Twins.Call> two = new LinkedHashMap<>();
        two.put("two(0, 0)", x -> x.two(0, 0));
        two.put("two(1, 0)", x -> x.two(1, 0));
        two.put("two(2, 5)", x -> x.two(2, 5));
        dueRefused(program, ReactiveTicks.TOO_FEW, two);
        dueRefused(program + "emit3 ", ReactiveTicks.TOO_FEW, two);
        dueRefused(program + "emit3 emit4 seq", ReactiveTicks.TOO_FEW, two);
        Map<String, Twins.Call> one = new LinkedHashMap<>();
        one.put("one(0, 0)", x -> x.one(0, 0));
        one.put("one(1, 0)", x -> x.one(1, 0));
        one.put("one(2, 5)", x -> x.one(2, 5));
        dueRefused(program, ReactiveTicks.TOO_FEW, one);
        dueRefused(program + "emit3 discard", ReactiveTicks.TOO_FEW, one);
        Map<String, Twins.Call> whole = new LinkedHashMap<>();
        whole.put("program()", ReactiveTicks::program);
        dueRefused(program, ReactiveTicks.TOO_FEW, whole);
        dueRefused(program + "emit3 emit4", ReactiveTicks.TOO_FEW, whole);
        dueRefused(program + "exit0 exit2 trap", ReactiveTicks.TOO_FEW, whole);
    }

    private static void badExit(String program) {
        Map<String, Twins.Call> whole = new LinkedHashMap<>();
        whole.put("program()", ReactiveTicks::program);
        dueRefused(program + "exit0", ReactiveTicks.BAD_EXIT, whole);
        dueRefused(program + "exit2 trap trap", ReactiveTicks.BAD_EXIT, whole);
        dueRefused(program + "pause emit3 seq exit1 trap par", ReactiveTicks.BAD_EXIT, whole);
        dueRefused(program + "exit0" + LOOPS, ReactiveTicks.BAD_EXIT, whole);
    }

    private static void none(String program) {
        Map<String, Twins.Call> calls = new LinkedHashMap<>();
        calls.put("status(-1)", x -> x.status(-1));
        calls.put("status(6)", x -> x.status(6));
        calls.put("active(-1)", x -> x.active(-1));
        calls.put("active(16)", x -> x.active(16));
        dueRefused(program, ReactiveTicks.NONE, calls);
        dueRefused(program + "emit3 pause", ReactiveTicks.NONE, calls);
    }

    private static void noneOfAnEndedProgram() {
        Map<String, Twins.Call> calls = new LinkedHashMap<>();
        calls.put("tick(0)", x -> x.tick(0));
        calls.put("tick(63)", x -> x.tick(63));
        calls.put("look(0)", x -> x.look(0));
        calls.put("look(63)", x -> x.look(63));
        calls.put("emitted(0)", x -> x.emitted(0));
        calls.put("emitted(63)", x -> x.emitted(63));
        dueRefused("tick8 ", ReactiveTicks.NONE, calls);
        dueRefused(OVER, ReactiveTicks.NONE, calls);
        dueRefused(OVER + "exit0 emit3", ReactiveTicks.NONE, calls);
        dueRefused(STUCK + "tick1 emit3", ReactiveTicks.NONE, calls);
    }

    private static void noneWithoutAnInstant() {
        Map<String, Twins.Call> calls = new LinkedHashMap<>();
        calls.put("status(0)", x -> x.status(0));
        calls.put("status(5)", x -> x.status(5));
        dueRefused("", ReactiveTicks.NONE, calls);
        dueRefused("emit3 program", ReactiveTicks.NONE, calls);
    }
}
