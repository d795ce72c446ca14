import java.util.ArrayDeque;
import java.util.ArrayList;
import java.util.Deque;
import java.util.HashMap;
import java.util.HashSet;
import java.util.List;
import java.util.Map;
import java.util.Set;

/**
 * The document told a second time, slowly and by other ways than GateWorkbench goes: values by
 * recursion, cubes over all sources, chains one by one, ticks by powers of the step.
 */
public final class Model {
    private static final int REFUSED = -1, FULL = -2;

    private record Net(int kind, List<Integer> operands, int constant) {
        boolean isSource() {
            return kind <= 1;
        }
    }

    private final List<Net> nets = new ArrayList<>();
    private final Map<Integer, Integer> nextOf = new HashMap<>();
    private final Map<Integer, Boolean> valueOf = new HashMap<>();

    int size() {
        return nets.size();
    }

    List<Integer> sources() {
        List<Integer> found = new ArrayList<>();
        for (int n = 0; n < nets.size(); n++) {
            if (nets.get(n).isSource()) {
                found.add(n);
            }
        }
        return found;
    }

    private List<Integer> registers() {
        List<Integer> found = new ArrayList<>(sources());
        found.removeIf(n -> nets.get(n).kind() != 1);
        return found;
    }

    private boolean missing(int net) {
        return net < 0 || net >= nets.size();
    }

    /** The net as asked for, or null if that is none with operands below the limit. */
    private static Net shape(int kind, int[] xyz, int limit) {
        int[] operandsOfKind = {0, 0, 0, 1, 2, 2, 2, 3};
        if (kind < 0 || kind > 7 || kind == 2 && (xyz[0] & ~1) != 0) {
            return null;
        }
        List<Integer> operands = new ArrayList<>();
        for (int i = 0; i < operandsOfKind[kind]; i++) {
            if (xyz[i] < 0 || xyz[i] >= limit) {
                return null;
            }
            operands.add(xyz[i]);
        }
        return new Net(kind, operands, xyz[0]);
    }

    public int add(int kind, int x, int y, int z) {
        Net net = shape(kind, new int[] {x, y, z}, nets.size());
        if (net == null) {
            return REFUSED;
        }
        boolean full = nets.size() == 32
            || net.isSource() && sources().size() == 10
            || kind == 1 && registers().size() == 6;
        if (full) {
            return FULL;
        }
        int number = nets.size();
        nets.add(net);
        valueOf.put(number, false);
        if (kind == 1) {
            nextOf.put(number, number);
        }
        return number;
    }

    public boolean change(int net, int kind, int x, int y, int z) {
        if (missing(net) || nets.get(net).isSource()) {
            return false;
        }
        Net changed = shape(kind, new int[] {x, y, z}, net);
        if (changed == null || changed.isSource()) {
            return false;
        }
        nets.set(net, changed);
        return true;
    }

    public boolean next(int register, int net) {
        if (!nextOf.containsKey(register) || missing(net)) {
            return false;
        }
        nextOf.put(register, net);
        return true;
    }

    public int drop() {
        int last = nets.size() - 1;
        if (last < 0) {
            return REFUSED;
        }
        for (Map.Entry<Integer, Integer> entry : nextOf.entrySet()) {
            if (entry.getKey() != last && entry.getValue() == last) {
                return REFUSED;
            }
        }
        nets.remove(last);
        nextOf.remove(last);
        valueOf.remove(last);
        return last;
    }

    public boolean set(int source, boolean one) {
        if (missing(source) || !nets.get(source).isSource()) {
            return false;
        }
        valueOf.put(source, one);
        return true;
    }

    private boolean evaluate(int net, Map<Integer, Boolean> known) {
        Boolean ready = known.get(net);
        if (ready != null) {
            return ready;
        }
        Net gate = nets.get(net);
        List<Boolean> in = new ArrayList<>();
        for (int operand : gate.operands()) {
            in.add(evaluate(operand, known));
        }
        boolean one = switch (gate.kind()) {
            case 2 -> gate.constant() == 1;
            case 3 -> !in.get(0);
            case 4 -> in.get(0) && in.get(1);
            case 5 -> in.get(0) || in.get(1);
            case 6 -> in.get(0) != in.get(1);
            case 7 -> in.get(0) ? in.get(1) : in.get(2);
            default -> throw new IllegalStateException("a source without a value");
        };
        known.put(net, one);
        return one;
    }

    private Map<Integer, Boolean> assigned(int assignment) {
        Map<Integer, Boolean> known = new HashMap<>();
        List<Integer> sources = sources();
        for (int i = 0; i < sources.size(); i++) {
            known.put(sources.get(i), (assignment >> i & 1) == 1);
        }
        return known;
    }

    private Map<Integer, Boolean> now() {
        Map<Integer, Boolean> known = new HashMap<>();
        for (int source : sources()) {
            known.put(source, valueOf.get(source));
        }
        return known;
    }

    private boolean[] function(int net) {
        boolean[] ones = new boolean[1 << sources().size()];
        for (int a = 0; a < ones.length; a++) {
            ones[a] = evaluate(net, assigned(a));
        }
        return ones;
    }

    public int value(int net) {
        return missing(net) ? REFUSED : evaluate(net, now()) ? 1 : 0;
    }

    public int count(int net) {
        if (missing(net)) {
            return REFUSED;
        }
        int found = 0;
        for (boolean one : function(net)) {
            found += one ? 1 : 0;
        }
        return found;
    }

    public int witness(int net, int from) {
        if (missing(net)) {
            return REFUSED;
        }
        boolean[] ones = function(net);
        int least = REFUSED;
        for (int a = ones.length - 1; a >= 0 && a >= from; a--) {
            least = ones[a] ? a : least;
        }
        return least;
    }

    public boolean same(int a, int b) {
        return !missing(a) && !missing(b) && java.util.Arrays.equals(function(a), function(b));
    }

    public boolean depends(int net, int source) {
        int place = sources().indexOf(source);
        if (missing(net) || place < 0) {
            return false;
        }
        boolean[] ones = function(net);
        boolean differs = false;
        for (int a = 0; a < ones.length; a++) {
            differs |= (a >> place & 1) == 0 && ones[a] != ones[a + (1 << place)];
        }
        return differs;
    }

    public int tests(int net, boolean one, int out) {
        if (missing(net) || missing(out)) {
            return REFUSED;
        }
        int found = 0;
        for (int a = 0; a < 1 << sources().size(); a++) {
            Map<Integer, Boolean> stuck = assigned(a);
            stuck.put(net, one);
            found += evaluate(out, assigned(a)) != evaluate(out, stuck) ? 1 : 0;
        }
        return found;
    }

    /** Only for few sources: looks at each cube, and at each greater cube of it. */
    public int primes(int net) {
        if (missing(net)) {
            return REFUSED;
        }
        int felt = 0;
        for (int source : sources()) {
            felt += depends(net, source) ? 1 : 0;
        }
        if (felt > 6) {
            return FULL;
        }
        boolean[] ones = function(net);
        Set<List<Integer>> inside = new HashSet<>();
        for (int given = 0; given < ones.length; given++) {
            for (int values = 0; values < ones.length; values++) {
                if ((values & ~given) == 0 && allOnes(ones, given, values)) {
                    inside.add(List.of(given, values));
                }
            }
        }
        int found = 0;
        for (List<Integer> cube : inside) {
            boolean prime = true;
            for (int given = 0; given < ones.length; given++) {
                boolean fewer = (given & ~cube.get(0)) == 0 && given != cube.get(0);
                prime &= !(fewer && inside.contains(List.of(given, cube.get(1) & given)));
            }
            found += prime ? 1 : 0;
        }
        return found;
    }

    private static boolean allOnes(boolean[] ones, int given, int values) {
        for (int a = 0; a < ones.length; a++) {
            if ((a & given) == values && !ones[a]) {
                return false;
            }
        }
        return true;
    }

    /** Only for few nets: writes down every chain. */
    public int level(int net, int k) {
        if (missing(net) || k < 1 || k > 3) {
            return REFUSED;
        }
        Map<Integer, Integer> levels = new HashMap<>();
        List<Set<Set<Integer>>> chains = new ArrayList<>();
        for (int n = 0; n <= net; n++) {
            chains.add(chainsTo(n, chains));
            if (nets.get(n).kind() <= 2) {
                levels.put(n, 0);
                continue;
            }
            for (int l = 1; l <= n + 1 && !levels.containsKey(n); l++) {
                if (canHit(chains.get(n), n, k, l, levels)) {
                    levels.put(n, l);
                }
            }
        }
        return levels.getOrDefault(net, REFUSED);
    }

    private Set<Set<Integer>> chainsTo(int net, List<Set<Set<Integer>>> chains) {
        Set<Set<Integer>> found = new HashSet<>();
        if (nets.get(net).isSource()) {
            found.add(Set.of(net));
        }
        for (int operand : nets.get(net).operands()) {
            for (Set<Integer> chain : chains.get(operand)) {
                Set<Integer> longer = new HashSet<>(chain);
                longer.add(net);
                found.add(longer);
            }
        }
        return found;
    }

    private static boolean canHit(
            Set<Set<Integer>> chains, int net, int k, int l, Map<Integer, Integer> levels) {
        if (chains.isEmpty()) {
            return true;
        }
        if (k == 0) {
            return false;
        }
        for (int member : chains.iterator().next()) {
            if (member != net && levels.getOrDefault(member, l) < l) {
                Set<Set<Integer>> rest = new HashSet<>(chains);
                rest.removeIf(chain -> chain.contains(member));
                if (canHit(rest, net, k - 1, l, levels)) {
                    return true;
                }
            }
        }
        return false;
    }

    /** The configuration after a tick from the one that is given, with the values of inputs. */
    private int step(int configuration, Map<Integer, Boolean> inputs) {
        Map<Integer, Boolean> known = in(configuration, inputs);
        int after = 0;
        List<Integer> registers = registers();
        for (int i = 0; i < registers.size(); i++) {
            after |= evaluate(nextOf.get(registers.get(i)), known) ? 1 << i : 0;
        }
        return after;
    }

    private Map<Integer, Boolean> in(int configuration, Map<Integer, Boolean> inputs) {
        Map<Integer, Boolean> known = new HashMap<>(inputs);
        List<Integer> registers = registers();
        for (int i = 0; i < registers.size(); i++) {
            known.put(registers.get(i), (configuration >> i & 1) == 1);
        }
        return known;
    }

    private Map<Integer, Boolean> inputsNow() {
        Map<Integer, Boolean> inputs = now();
        inputs.keySet().removeAll(registers());
        return inputs;
    }

    private List<Map<Integer, Boolean>> allInputs() {
        List<Map<Integer, Boolean>> all = new ArrayList<>();
        Set<Map<Integer, Boolean>> seen = new HashSet<>();
        for (int a = 0; a < 1 << sources().size(); a++) {
            Map<Integer, Boolean> inputs = assigned(a);
            inputs.keySet().removeAll(registers());
            if (seen.add(inputs)) {
                all.add(inputs);
            }
        }
        return all;
    }

    private int configurationNow() {
        int configuration = 0;
        List<Integer> registers = registers();
        for (int i = 0; i < registers.size(); i++) {
            configuration |= valueOf.get(registers.get(i)) ? 1 << i : 0;
        }
        return configuration;
    }

    public int tick(int n) {
        if (n < 0) {
            return REFUSED;
        }
        int many = 1 << registers().size();
        int[] power = new int[many];
        for (int c = 0; c < many; c++) {
            power[c] = step(c, inputsNow());
        }
        int configuration = configurationNow();
        for (int rest = n; rest > 0; rest >>= 1) {
            if ((rest & 1) == 1) {
                configuration = power[configuration];
            }
            int[] squared = new int[many];
            for (int c = 0; c < many; c++) {
                squared[c] = power[power[c]];
            }
            power = squared;
        }
        valueOf.putAll(in(configuration, inputsNow()));
        return configuration;
    }

    public int cycle(int what) {
        List<Integer> run = new ArrayList<>();
        int configuration = configurationNow();
        for (int t = 0; t < 200; t++) {
            run.add(configuration);
            configuration = step(configuration, inputsNow());
        }
        for (int t = 0; t < 100; t++) {
            int more = 1 + run.subList(t + 1, run.size()).indexOf(run.get(t));
            if (more > 0) {
                return what == 0 ? t : what == 1 ? more : REFUSED;
            }
        }
        throw new IllegalStateException("no configuration comes again");
    }

    /** The configurations that can come after exactly t ticks, for t from 0 to 64. */
    private List<Set<Integer>> coming() {
        List<Map<Integer, Boolean>> all = allInputs();
        List<Set<Integer>> after = new ArrayList<>();
        after.add(Set.of(0));
        Map<Integer, Set<Integer>> stepsFrom = new HashMap<>();
        for (int t = 0; t < 64; t++) {
            Set<Integer> then = new HashSet<>();
            for (int c : after.get(t)) {
                then.addAll(stepsFrom.computeIfAbsent(c, from -> {
                    Set<Integer> to = new HashSet<>();
                    all.forEach(inputs -> to.add(step(from, inputs)));
                    return to;
                }));
            }
            after.add(then);
        }
        return after;
    }

    public int configurations() {
        Set<Integer> found = new HashSet<>();
        coming().forEach(found::addAll);
        return found.size();
    }

    public int soonest(int configuration) {
        List<Set<Integer>> after = coming();
        for (int t = 0; t < after.size(); t++) {
            if (after.get(t).contains(configuration)) {
                return t;
            }
        }
        return REFUSED;
    }

    public int alarm(int net) {
        if (missing(net)) {
            return REFUSED;
        }
        List<Map<Integer, Boolean>> all = allInputs();
        List<Set<Integer>> after = coming();
        Set<Integer> silent = new HashSet<>();
        for (int t = 0; t < after.size(); t++) {
            for (int c : after.get(t)) {
                if (!silent.add(c)) {
                    continue;
                }
                for (Map<Integer, Boolean> inputs : all) {
                    if (evaluate(net, in(c, inputs))) {
                        return t;
                    }
                }
            }
        }
        return REFUSED;
    }

    public int apart(int net, int c, int d) {
        int many = 1 << registers().size();
        if (missing(net) || c < 0 || d < 0 || c >= many || d >= many) {
            return REFUSED;
        }
        return apartFrom(net, c, d, machine(net));
    }

    /** By configuration, then by values of the inputs: where a tick leads, and the net's value. */
    private int[][][] machine(int net) {
        List<Map<Integer, Boolean>> all = allInputs();
        int[][][] cells = new int[1 << registers().size()][all.size()][];
        for (int c = 0; c < cells.length; c++) {
            for (int i = 0; i < all.size(); i++) {
                boolean one = evaluate(net, in(c, all.get(i)));
                cells[c][i] = new int[] {step(c, all.get(i)), one ? 1 : 0};
            }
        }
        return cells;
    }

    private static int apartFrom(int net, int c, int d, int[][][] machine) {
        Map<List<Integer>, Integer> ticks = new HashMap<>();
        Deque<List<Integer>> open = new ArrayDeque<>();
        ticks.put(List.of(c, d), 0);
        open.add(List.of(c, d));
        while (!open.isEmpty()) {
            List<Integer> pair = open.remove();
            int[][] left = machine[pair.get(0)];
            int[][] right = machine[pair.get(1)];
            for (int i = 0; i < left.length; i++) {
                if (left[i][1] != right[i][1]) {
                    return ticks.get(pair);
                }
            }
            for (int i = 0; i < left.length; i++) {
                List<Integer> to = List.of(left[i][0], right[i][0]);
                if (ticks.putIfAbsent(to, ticks.get(pair) + 1) == null) {
                    open.add(to);
                }
            }
        }
        return REFUSED;
    }

    public int classes(int net) {
        if (missing(net)) {
            return REFUSED;
        }
        int[][][] machine = machine(net);
        List<Integer> leaders = new ArrayList<>();
        for (int c = 0; c < machine.length; c++) {
            int candidate = c;
            if (leaders.stream().allMatch(d -> apartFrom(net, candidate, d, machine) != REFUSED)) {
                leaders.add(c);
            }
        }
        return leaders.size();
    }
}
