public final class GateWorkbench {
    public static final int REFUSED = -1, FULL = -2;

    private static final int INPUT = 0, REGISTER = 1, CONSTANT = 2, NOT = 3;
    private static final int AND = 4, OR = 5, XOR = 6, MUX = 7;

    private static final int MAX_NETS = 32, MAX_SOURCES = 10, MAX_REGISTERS = 6;
    private static final int MAX_ASSIGNMENTS = 1024, MAX_CONFIGURATIONS = 64, MAX_PAIRS = 4096;
    private static final int MAX_WIDTH = 3;
    private static final int MAX_PRIME_SOURCES = 6, MAX_CUBES = 729;
    private static final int FREE = 2;

    // Equal to REFUSED, so that what was never found is already the answer.
    private static final int NONE = REFUSED;

    private final int[] kinds = new int[MAX_NETS];
    private final int[] xs = new int[MAX_NETS];
    private final int[] ys = new int[MAX_NETS];
    private final int[] zs = new int[MAX_NETS];
    private final int[] nexts = new int[MAX_NETS];
    private final int[] held = new int[MAX_NETS];
    private int nets = 0;
    private int sources = 0;
    private int registers = 0;

    // What follows is scratch paper: each call that reads it fills it first.
    private final boolean[] ones = new boolean[MAX_ASSIGNMENTS];
    private final int[] needed = new int[MAX_PRIME_SOURCES];
    private final boolean[] covered = new boolean[MAX_CUBES];
    private final int[] operandSets = new int[MAX_NETS];
    private final int[] levels = new int[MAX_NETS];
    private final int[] seenAt = new int[MAX_CONFIGURATIONS];
    private int tail = 0;
    private int period = 1;
    private final int[] goes = new int[MAX_ASSIGNMENTS];
    private final int[] shows = new int[MAX_ASSIGNMENTS];
    private final int[] comesAt = new int[MAX_CONFIGURATIONS];
    private final int[] apartAt = new int[MAX_PAIRS];

    public GateWorkbench() {
    }

    public int add(int kind, int x, int y, int z) {
        if (!fits(kind, x, y, z, nets)) {
            return REFUSED;
        }
        if (nets >= MAX_NETS || isOneTooMany(kind)) {
            return FULL;
        }
        int made = nets;
        nets++;
        write(made, kind, x, y, z);
        // An input keeps itself as its NEXT for good: a tick then treats all sources alike.
        nexts[made] = made;
        held[made] = 0;
        countSource(kind, 1);
        return made;
    }

    public boolean change(int net, int kind, int x, int y, int z) {
        if (!isNet(net) || isSourceKind(kinds[net]) || isSourceKind(kind)) {
            return false;
        }
        if (!fits(kind, x, y, z, net)) {
            return false;
        }
        write(net, kind, x, y, z);
        return true;
    }

    public boolean next(int register, int net) {
        if (!isNet(register) || kinds[register] != REGISTER || !isNet(net)) {
            return false;
        }
        nexts[register] = net;
        return true;
    }

    public int drop() {
        if (nets == 0) {
            return REFUSED;
        }
        int last = nets - 1;
        for (int n = 0; n < last; n++) {
            if (kinds[n] == REGISTER && nexts[n] == last) {
                return REFUSED;
            }
        }
        countSource(kinds[last], -1);
        nets = last;
        return nets;
    }

    public boolean set(int source, boolean one) {
        if (!isSource(source)) {
            return false;
        }
        held[source] = one ? 1 : 0;
        return true;
    }

    public int value(int net) {
        if (!isNet(net)) {
            return REFUSED;
        }
        int assignment = presentAssignment();
        int values = valuesWith(assignment, NONE, 0);
        return bitAt(values, net);
    }

    public int count(int net) {
        if (!isNet(net)) {
            return REFUSED;
        }
        tabulate(net);
        int bound = 1 << sources;
        int found = 0;
        for (int a = 0; a < bound; a++) {
            if (ones[a]) {
                found++;
            }
        }
        return found;
    }

    public int witness(int net, int from) {
        if (!isNet(net)) {
            return REFUSED;
        }
        tabulate(net);
        int bound = 1 << sources;
        for (int a = from < 0 ? 0 : from; a < bound; a++) {
            if (ones[a]) {
                return a;
            }
        }
        return REFUSED;
    }

    public boolean same(int a, int b) {
        if (!isNet(a) || !isNet(b)) {
            return false;
        }
        int bound = 1 << sources;
        for (int assignment = 0; assignment < bound; assignment++) {
            int values = valuesWith(assignment, NONE, 0);
            if (bitAt(values, a) != bitAt(values, b)) {
                return false;
            }
        }
        return true;
    }

    public boolean depends(int net, int source) {
        if (!isNet(net) || !isSource(source)) {
            return false;
        }
        int place = 0;
        for (int n = 0; n < source; n++) {
            if (isSourceKind(kinds[n])) {
                place++;
            }
        }
        tabulate(net);
        return isFeltAt(place);
    }

    public int tests(int net, boolean one, int out) {
        if (!isNet(net) || !isNet(out)) {
            return REFUSED;
        }
        int stuckBit = one ? 1 : 0;
        int bound = 1 << sources;
        int found = 0;
        for (int a = 0; a < bound; a++) {
            int sound = valuesWith(a, NONE, 0);
            int faulty = valuesWith(a, net, stuckBit);
            if (bitAt(sound, out) != bitAt(faulty, out)) {
                found++;
            }
        }
        return found;
    }

    public int primes(int net) {
        if (!isNet(net)) {
            return REFUSED;
        }
        tabulate(net);
        int many = 0;
        for (int place = 0; place < sources; place++) {
            if (isFeltAt(place)) {
                if (many == MAX_PRIME_SOURCES) {
                    return FULL;
                }
                needed[many] = place;
                many++;
            }
        }
        return countPrimes(many);
    }

    public int level(int net, int k) {
        if (!isNet(net) || k < 1 || k > MAX_WIDTH) {
            return REFUSED;
        }
        for (int n = 0; n <= net; n++) {
            operandSets[n] = operandSetOf(n);
            levels[n] = levelFromLower(n, k);
        }
        return levels[net];
    }

    public int tick(int n) {
        if (n < 0) {
            return REFUSED;
        }
        findCycle();
        int steps = n;
        if (n > tail && period > 0) {
            steps = tail + (n - tail) % period;
        }
        int assignment = presentAssignment();
        for (int t = 0; t < steps; t++) {
            assignment = assignmentAfter(assignment);
        }
        hold(assignment);
        return configurationOf(assignment);
    }

    public int cycle(int what) {
        if (what != 0 && what != 1) {
            return REFUSED;
        }
        findCycle();
        return what == 0 ? tail : period;
    }

    public int configurations() {
        fillGoes();
        findComing();
        int bound = 1 << registers;
        int found = 0;
        for (int c = 0; c < bound; c++) {
            if (comesAt[c] != NONE) {
                found++;
            }
        }
        return found;
    }

    public int soonest(int configuration) {
        if (!isConfiguration(configuration)) {
            return REFUSED;
        }
        fillGoes();
        findComing();
        return comesAt[configuration];
    }

    public int alarm(int net) {
        if (!isNet(net)) {
            return REFUSED;
        }
        fillGoes();
        findComing();
        fillShows(net);
        int inputs = sources - registers;
        int cells = 1 << sources;
        int least = NONE;
        for (int cell = 0; cell < cells; cell++) {
            int t = comesAt[cell >> inputs];
            if (shows[cell] == 1 && t != NONE && (least == NONE || t < least)) {
                least = t;
            }
        }
        return least;
    }

    public int apart(int net, int c, int d) {
        if (!isNet(net) || !isConfiguration(c) || !isConfiguration(d)) {
            return REFUSED;
        }
        fillGoes();
        fillShows(net);
        findApart();
        return apartAt[pairOf(c, d)];
    }

    public int classes(int net) {
        if (!isNet(net)) {
            return REFUSED;
        }
        fillGoes();
        fillShows(net);
        findApart();
        int bound = 1 << registers;
        int found = 0;
        for (int c = 0; c < bound; c++) {
            boolean leads = true;
            for (int d = 0; d < c; d++) {
                if (apartAt[pairOf(c, d)] == NONE) {
                    leads = false;
                }
            }
            if (leads) {
                found++;
            }
        }
        return found;
    }

    private boolean isNet(int net) {
        return net >= 0 && net < nets;
    }

    private boolean isSource(int net) {
        return isNet(net) && isSourceKind(kinds[net]);
    }

    private static boolean isSourceKind(int kind) {
        return kind == INPUT || kind == REGISTER;
    }

    private boolean isConfiguration(int configuration) {
        return configuration >= 0 && configuration < 1 << registers;
    }

    private boolean isOneTooMany(int kind) {
        if (kind == REGISTER) {
            return sources >= MAX_SOURCES || registers >= MAX_REGISTERS;
        }
        return kind == INPUT && sources >= MAX_SOURCES;
    }

    private static boolean fits(int kind, int x, int y, int z, int limit) {
        boolean xFits = x >= 0 && x < limit;
        boolean yFits = y >= 0 && y < limit;
        boolean zFits = z >= 0 && z < limit;
        switch (kind) {
            case INPUT:
            case REGISTER:
                return true;
            case CONSTANT:
                return x == 0 || x == 1;
            case NOT:
                return xFits;
            case AND:
            case OR:
            case XOR:
                return xFits && yFits;
            case MUX:
                return xFits && yFits && zFits;
            default:
                return false;
        }
    }

    private void write(int net, int kind, int x, int y, int z) {
        kinds[net] = kind;
        xs[net] = x;
        ys[net] = y;
        zs[net] = z;
    }

    private void countSource(int kind, int more) {
        if (isSourceKind(kind)) {
            sources += more;
        }
        if (kind == REGISTER) {
            registers += more;
        }
    }

    private static int bitAt(int bits, int place) {
        return (bits >>> place) & 1;
    }

    // The values of all nets at once, net n's in bit n; no net is stuck if stuckNet is NONE.
    private int valuesWith(int assignment, int stuckNet, int stuckBit) {
        int values = 0;
        int place = 0;
        for (int n = 0; n < nets; n++) {
            int bit;
            if (isSourceKind(kinds[n])) {
                bit = bitAt(assignment, place);
                place++;
            } else {
                bit = gateBit(n, values);
            }
            if (n == stuckNet) {
                bit = stuckBit;
            }
            values |= bit << n;
        }
        return values;
    }

    private int gateBit(int net, int values) {
        int x = bitAt(values, xs[net]);
        int y = bitAt(values, ys[net]);
        int z = bitAt(values, zs[net]);
        switch (kinds[net]) {
            case NOT:
                return 1 - x;
            case AND:
                return x & y;
            case OR:
                return x | y;
            case XOR:
                return x ^ y;
            case MUX:
                return x == 1 ? y : z;
            default:
                // A constant: its x is no operand, but the value itself.
                return xs[net];
        }
    }

    private int presentAssignment() {
        int assignment = 0;
        int place = 0;
        for (int n = 0; n < nets; n++) {
            if (isSourceKind(kinds[n])) {
                assignment |= held[n] << place;
                place++;
            }
        }
        return assignment;
    }

    private void hold(int assignment) {
        int place = 0;
        for (int n = 0; n < nets; n++) {
            if (isSourceKind(kinds[n])) {
                held[n] = bitAt(assignment, place);
                place++;
            }
        }
    }

    private int assignmentAfter(int assignment) {
        int values = valuesWith(assignment, NONE, 0);
        int after = 0;
        int place = 0;
        for (int n = 0; n < nets; n++) {
            if (isSourceKind(kinds[n])) {
                after |= bitAt(values, nexts[n]) << place;
                place++;
            }
        }
        return after;
    }

    private int configurationOf(int assignment) {
        return pickBits(assignment, REGISTER);
    }

    // The bits of an assignment that belong to the sources of one kind, moved together.
    private int pickBits(int assignment, int kind) {
        int picked = 0;
        int place = 0;
        int pickedPlace = 0;
        for (int n = 0; n < nets; n++) {
            if (isSourceKind(kinds[n])) {
                if (kinds[n] == kind) {
                    picked |= bitAt(assignment, place) << pickedPlace;
                    pickedPlace++;
                }
                place++;
            }
        }
        return picked;
    }

    private void tabulate(int net) {
        int bound = 1 << sources;
        for (int a = 0; a < bound; a++) {
            int values = valuesWith(a, NONE, 0);
            ones[a] = bitAt(values, net) == 1;
        }
    }

    private boolean isFeltAt(int place) {
        int bound = 1 << sources;
        int flip = 1 << place;
        for (int a = 0; a < bound; a++) {
            if (ones[a] != ones[a ^ flip]) {
                return true;
            }
        }
        return false;
    }

    // A cube is a number in base 3, a digit for each needed source: its value or FREE.
    // Other sources are left out, since no prime cube gives them a value.
    private int countPrimes(int many) {
        int cubes = powerOfThree(many);
        for (int cube = 0; cube < cubes; cube++) {
            // FREE is the greatest digit, so both halves of a cube come before it.
            covered[cube] = isCovered(cube, many);
        }
        int found = 0;
        for (int cube = 0; cube < cubes; cube++) {
            if (covered[cube] && !hasWiderCube(cube, many)) {
                found++;
            }
        }
        return found;
    }

    private boolean isCovered(int cube, int many) {
        int assignment = 0;
        int weight = 1;
        for (int i = 0; i < many; i++) {
            int digit = cube / weight % 3;
            if (digit == FREE) {
                return covered[cube - weight] && covered[cube - 2 * weight];
            }
            assignment |= digit << needed[i];
            weight *= 3;
        }
        return ones[assignment];
    }

    private boolean hasWiderCube(int cube, int many) {
        int weight = 1;
        for (int i = 0; i < many; i++) {
            int digit = cube / weight % 3;
            if (digit != FREE && covered[cube + (FREE - digit) * weight]) {
                return true;
            }
            weight *= 3;
        }
        return false;
    }

    private static int powerOfThree(int exponent) {
        int power = 1;
        for (int i = 0; i < exponent; i++) {
            power *= 3;
        }
        return power;
    }

    private int operandSetOf(int net) {
        int x = 1 << xs[net];
        int y = 1 << ys[net];
        int z = 1 << zs[net];
        switch (kinds[net]) {
            case NOT:
                return x;
            case AND:
            case OR:
            case XOR:
                return x | y;
            case MUX:
                return x | y | z;
            default:
                return 0;
        }
    }

    // Tries every SET of at most k lower nets; a member told twice makes a smaller SET.
    private int levelFromLower(int net, int k) {
        if (isSourceKind(kinds[net]) || kinds[net] == CONSTANT) {
            return 0;
        }
        if (isBetween(0, net)) {
            return 1;
        }
        int least = NONE;
        for (int a = 0; a < net; a++) {
            for (int b = k >= 2 ? 0 : a; b <= a; b++) {
                for (int c = k >= 3 ? 0 : b; c <= b; c++) {
                    int reached = levelAbove(a, b, c);
                    boolean better = reached != NONE && (least == NONE || reached < least);
                    int set = 1 << a | 1 << b | 1 << c;
                    if (better && isBetween(set, net)) {
                        least = reached;
                    }
                }
            }
        }
        return least;
    }

    private int levelAbove(int a, int b, int c) {
        if (levels[a] == NONE || levels[b] == NONE || levels[c] == NONE) {
            return NONE;
        }
        int greatest = levels[a];
        if (levels[b] > greatest) {
            greatest = levels[b];
        }
        if (levels[c] > greatest) {
            greatest = levels[c];
        }
        return greatest + 1;
    }

    // Follows all chains back from the net; one that comes to a source has avoided the SET.
    private boolean isBetween(int set, int net) {
        int open = operandSets[net] & ~set;
        for (int n = net - 1; n >= 0; n--) {
            if (bitAt(open, n) == 1) {
                if (isSourceKind(kinds[n])) {
                    return false;
                }
                open |= operandSets[n] & ~set;
            }
        }
        return true;
    }

    private void findCycle() {
        for (int c = 0; c < MAX_CONFIGURATIONS; c++) {
            seenAt[c] = NONE;
        }
        int assignment = presentAssignment();
        for (int t = 0; t <= MAX_CONFIGURATIONS; t++) {
            int configuration = configurationOf(assignment);
            if (seenAt[configuration] != NONE) {
                tail = seenAt[configuration];
                period = t - tail;
                return;
            }
            seenAt[configuration] = t;
            assignment = assignmentAfter(assignment);
        }
    }

    // A cell is a configuration with values of the inputs below it: unlike in an
    // assignment, two configurations then meet the same inputs at the same offset.
    private int cellOf(int assignment) {
        int inputs = sources - registers;
        int configuration = configurationOf(assignment);
        int offset = pickBits(assignment, INPUT);
        return configuration << inputs | offset;
    }

    private void fillGoes() {
        int bound = 1 << sources;
        for (int a = 0; a < bound; a++) {
            int cell = cellOf(a);
            int after = assignmentAfter(a);
            goes[cell] = configurationOf(after);
        }
    }

    private void fillShows(int net) {
        int bound = 1 << sources;
        for (int a = 0; a < bound; a++) {
            int cell = cellOf(a);
            int values = valuesWith(a, NONE, 0);
            shows[cell] = bitAt(values, net);
        }
    }

    private void findComing() {
        int bound = 1 << registers;
        for (int c = 0; c < bound; c++) {
            comesAt[c] = NONE;
        }
        comesAt[0] = 0;
        for (int t = 0; t < bound; t++) {
            for (int c = 0; c < bound; c++) {
                if (comesAt[c] == t) {
                    markComing(c, t + 1);
                }
            }
        }
    }

    private void markComing(int configuration, int t) {
        int inputs = sources - registers;
        int bound = 1 << inputs;
        for (int i = 0; i < bound; i++) {
            int to = goes[configuration << inputs | i];
            if (comesAt[to] == NONE) {
                comesAt[to] = t;
            }
        }
    }

    private static int pairOf(int c, int d) {
        return c * MAX_CONFIGURATIONS + d;
    }

    private void findApart() {
        int bound = 1 << registers;
        for (int c = 0; c < bound; c++) {
            for (int d = 0; d < bound; d++) {
                apartAt[pairOf(c, d)] = showsDiffer(c, d) ? 0 : NONE;
            }
        }
        // Each round that finds a pair splits a class, so there are fewer rounds than classes.
        boolean found = true;
        for (int t = 1; t <= bound && found; t++) {
            found = markApart(t);
        }
    }

    private boolean showsDiffer(int c, int d) {
        int inputs = sources - registers;
        int bound = 1 << inputs;
        for (int i = 0; i < bound; i++) {
            if (shows[c << inputs | i] != shows[d << inputs | i]) {
                return true;
            }
        }
        return false;
    }

    private boolean markApart(int t) {
        int bound = 1 << registers;
        boolean found = false;
        for (int c = 0; c < bound; c++) {
            for (int d = 0; d < c; d++) {
                int pair = pairOf(c, d);
                if (apartAt[pair] == NONE && leadsApart(c, d, t - 1)) {
                    apartAt[pair] = t;
                    apartAt[pairOf(d, c)] = t;
                    found = true;
                }
            }
        }
        return found;
    }

    private boolean leadsApart(int c, int d, int t) {
        int inputs = sources - registers;
        int bound = 1 << inputs;
        for (int i = 0; i < bound; i++) {
            int cTo = goes[c << inputs | i];
            int dTo = goes[d << inputs | i];
            if (apartAt[pairOf(cTo, dTo)] == t) {
                return true;
            }
        }
        return false;
    }
}
