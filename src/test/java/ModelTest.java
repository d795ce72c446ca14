import java.lang.reflect.Method;
import java.util.Arrays;
import java.util.List;

/** Long runs of calls, the same ones each time, each answer compared with the Model's. */
public final class ModelTest {
    private static final int CALLS = 512;
    private static final Due due = new Due();

    private final int maxNets;
    private final int maxSources;
    private final int run;
    private long seed;
    private final GateWorkbench program = new GateWorkbench();
    private final Model model = new Model();

    private ModelTest(int run, int maxNets, int maxSources) {
        this.run = run;
        this.maxNets = maxNets;
        this.maxSources = maxSources;
        this.seed = run * 7919L + 1;
    }

    public static void main(String[] args) throws ReflectiveOperationException {
        for (int run = 0; run < 120; run++) {
            new ModelTest(run, 14, 5).play();
        }
        for (int run = 1000; run < 1040; run++) {
            new ModelTest(run, 22, 7).play();
        }
        for (int run = 2000; run < 2006; run++) {
            new ModelTest(run, 32, 10).play();
        }
        due.end();
    }

    /** From 0 to below the bound; the row of numbers is the same each time the test runs. */
    private int pick(int bound) {
        seed = seed * 6364136223846793005L + 1442695040888963407L;
        return (int) ((seed >>> 33) % bound);
    }

    /** Nearly always a net, now and then the number just below them or just above them. */
    private int net() {
        int nets = model.size();
        if (nets == 0 || pick(25) == 0) {
            return pick(2) == 0 ? -1 : nets;
        }
        // Late nets are chosen more often, so that the circuits grow deep.
        return pick(2) == 0 ? pick(nets) : nets - 1 - pick(Math.min(nets, 5));
    }

    private int source() {
        List<Integer> sources = model.sources();
        return sources.isEmpty() || pick(8) == 0 ? net() : sources.get(pick(sources.size()));
    }

    private int configuration() {
        return pick(30) == 0 ? -1 - pick(9) : pick(1 << pick(8));
    }

    private void play() throws ReflectiveOperationException {
        for (int call = 0; call < CALLS; call++) {
            if (call < 2 * maxNets || pick(3) == 0) {
                alter();
            } else {
                ask();
            }
        }
    }

    private void alter() throws ReflectiveOperationException {
        switch (pick(9)) {
            case 0, 1, 2, 3 -> add();
            case 4 -> call("change", net(), kind(), net(), net(), net());
            case 5, 6 -> call("next", source(), net());
            case 7 -> call("set", source(), pick(2) == 1);
            default -> {
                if (pick(3) == 0) {
                    call("drop");
                }
            }
        }
    }

    /** Mostly gates, XOR and MUX above all, since the others soon make everything constant. */
    private int kind() {
        return pick(40) == 0 ? pick(10) - 1 : pick(3) == 0 ? 3 + pick(3) : 6 + pick(2);
    }

    private void add() throws ReflectiveOperationException {
        int missing = maxSources - model.sources().size();
        // Every other run has few inputs, so that configurations come late and again late.
        int registersOfFour = run % 2 == 0 ? 2 : 3;
        int sourceKind = pick(4) < registersOfFour ? 1 : 0;
        int kind = pick(10) < missing ? sourceKind : kind();
        boolean room = model.size() < maxNets && (kind > 1 || missing > 0);
        if (room || maxSources == 10) {
            call("add", kind, kind == 2 ? pick(8) % 3 : net(), net(), net());
        }
    }

    private void ask() throws ReflectiveOperationException {
        switch (pick(18)) {
            case 0 -> call("value", net());
            case 1 -> call("count", net());
            case 2 -> call("witness", net(), pick(1 << pick(11)) - 1);
            case 3 -> call("same", net(), net());
            case 4 -> call("depends", net(), source());
            case 5 -> call("tests", net(), pick(2) == 1, net());
            case 6, 7 -> primes();
            case 8, 9, 10 -> level();
            case 11 -> call("tick", pick(4) == 0 ? pick(Integer.MAX_VALUE) : pick(70) - 1);
            case 12 -> call("cycle", pick(10) == 0 ? pick(5) - 2 : pick(2));
            case 13 -> call("configurations");
            case 14 -> call("soonest", configuration());
            case 15 -> call("alarm", net());
            case 16 -> call("apart", net(), configuration(), configuration());
            default -> call("classes", net());
        }
    }

    /** The Model looks at all cubes of all sources, so that there must not be too many. */
    private void primes() throws ReflectiveOperationException {
        if (model.sources().size() <= 7) {
            call("primes", net());
        }
    }

    /** The Model writes down every chain, so that there must not be too many nets. */
    private void level() throws ReflectiveOperationException {
        int net = net();
        if (net < 16) {
            call("level", net, pick(20) == 0 ? pick(6) - 1 : 1 + pick(3));
        }
    }

    private void call(String name, Object... arguments) throws ReflectiveOperationException {
        Class<?>[] types = new Class<?>[arguments.length];
        for (int i = 0; i < types.length; i++) {
            types[i] = arguments[i] instanceof Boolean ? boolean.class : int.class;
        }
        String text = "run " + run + ": " + name + Arrays.toString(arguments);
        due.is(text, answer(program, name, types, arguments), answer(model, name, types, arguments));
    }

    private static long answer(Object target, String name, Class<?>[] types, Object[] arguments)
            throws ReflectiveOperationException {
        Method method = target.getClass().getMethod(name, types);
        Object answer = method.invoke(target, arguments);
        return answer instanceof Boolean ? ((Boolean) answer ? 1 : 0) : ((Integer) answer).longValue();
    }
}
