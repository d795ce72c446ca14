/** A section for each promise of the document: ordinary inputs, the edges, wrong inputs. */
public final class PromisesTest extends Bench {
    private static final Due due = new Due();

    public static void main(String[] args) {
        newObject();
        addKinds();
        addLimits();
        change();
        next();
        drop();
        dropAndMakeAgain();
        set();
        value();
        count();
        witness();
        same();
        depends();
        tests();
        primes();
        primesLimit();
        level();
        levelWithoutChains();
        levelNeedsWideView();
        tick();
        cycle();
        configurations();
        soonest();
        alarm();
        apart();
        classes();
        longest();
        order();
        independence();
        wrongNetsEverywhere();
        due.end();
    }

    private static void longest() {
        GateWorkbench w = holdingCounter();
        due.is("16: 63 ticks of tail", w.cycle(0), 63);
        due.is("16: then it stands", w.cycle(1), 1);
        due.is("17: all 64", w.configurations(), 64);
        due.is("18: 63 ticks", w.soonest(63), 63);
        due.is("18: no such among 64", w.soonest(64), REFUSED);
        due.is("19: 63 ticks", w.alarm(16), 63);
        due.is("20: 62 ticks", w.apart(16, 0, 1), 62);
        due.is("20: 1 tick", w.apart(16, 62, 61), 1);
        due.is("21: all 64", w.classes(16), 64);
        due.is("15: within the tail", w.tick(62), 62);
        due.is("15: beyond the tail", w.tick(MAX), 63);
        for (int n = 0; n < 6; n++) {
            w.next(n, n == 0 ? 6 : 5 + 2 * n);
        }
        due.is("16: no tail", w.cycle(0), 0);
        due.is("16: a cycle of 64", w.cycle(1), 64);
        due.is("15: round and round", w.tick(MAX), 62);
        due.is("20: round", w.apart(16, 0, 1), 62);
    }

    private static void newObject() {
        GateWorkbench w = new GateWorkbench();
        due.is("1: value(0)", w.value(0), REFUSED);
        due.is("1: count(0)", w.count(0), REFUSED);
        due.is("1: drop()", w.drop(), REFUSED);
        due.is("1: set(0)", w.set(0, true), false);
        due.is("1: same(0, 0)", w.same(0, 0), false);
        due.is("1: tick(0)", w.tick(0), 0);
        due.is("1: configurations()", w.configurations(), 1);
        GateWorkbench other = with(REGISTER, NOT);
        due.is("1: first add", w.add(REGISTER, 0, 0, 0), 0);
        other.set(0, true);
        due.is("1: two objects are apart", w.value(0), 0);
    }

    private static void addKinds() {
        GateWorkbench w = new GateWorkbench();
        due.is("2: kind -1", w.add(-1, 0, 0, 0), REFUSED);
        due.is("2: kind 8", w.add(8, 0, 0, 0), REFUSED);
        due.is("2: kind MAX", w.add(MAX, 0, 0, 0), REFUSED);
        due.is("2: kind MIN", w.add(MIN, 0, 0, 0), REFUSED);
        due.is("2: NOT of itself", w.add(NOT, 0, 0, 0), REFUSED);
        due.is("2: constant 2", w.add(CONSTANT, 2, 0, 0), REFUSED);
        due.is("2: constant -1", w.add(CONSTANT, -1, 0, 0), REFUSED);
        due.is("2: input, operands not looked at", w.add(INPUT, -1, MAX, MIN), 0);
        due.is("2: register, operands not looked at", w.add(REGISTER, -1, MAX, MIN), 1);
        due.is("2: constant, operands not looked at", w.add(CONSTANT, 1, MAX, MIN), 2);
        due.is("2: NOT, operands not looked at", w.add(NOT, 2, -1, 99), 3);
        for (int kind = AND; kind <= XOR; kind++) {
            due.is("2: x is no net yet", w.add(kind, kind, 0, 0), REFUSED);
            due.is("2: y is no net yet", w.add(kind, 0, kind, 0), REFUSED);
            due.is("2: x below 0", w.add(kind, -1, 0, 0), REFUSED);
            due.is("2: y below 0", w.add(kind, 0, -1, 0), REFUSED);
            due.is("2: z not looked at", w.add(kind, kind - 1, kind - 1, -1), kind);
        }
        due.is("2: MUX x", w.add(MUX, 7, 0, 0), REFUSED);
        due.is("2: MUX y", w.add(MUX, 0, 7, 0), REFUSED);
        due.is("2: MUX z", w.add(MUX, 0, 0, 7), REFUSED);
        due.is("2: MUX z below 0", w.add(MUX, 0, 0, MIN), REFUSED);
        due.is("2: MUX", w.add(MUX, 6, 6, 6), 7);
        due.is("2: the refused changed nothing", w.drop(), 7);
    }

    private static void addLimits() {
        GateWorkbench w = new GateWorkbench();
        for (int n = 0; n < 6; n++) {
            due.is("2: register", w.add(REGISTER, 0, 0, 0), n);
        }
        due.is("2: 7th register", w.add(REGISTER, 0, 0, 0), FULL);
        for (int n = 6; n < 10; n++) {
            due.is("2: input", w.add(INPUT, 0, 0, 0), n);
        }
        due.is("2: 11th source, an input", w.add(INPUT, 0, 0, 0), FULL);
        due.is("2: 11th source, a register", w.add(REGISTER, 0, 0, 0), FULL);
        for (int n = 10; n < 32; n++) {
            due.is("2: constant", w.add(CONSTANT, n & 1, 0, 0), n);
        }
        due.is("2: 33rd net", w.add(CONSTANT, 0, 0, 0), FULL);
        due.is("2: 33rd net, a NOT", w.add(NOT, 31, 0, 0), FULL);
        due.is("2: the net 31", w.count(31), 1024);
        due.is("2: drop", w.drop(), 31);
        due.is("2: room again", w.add(NOT, 30, 0, 0), 31);

        GateWorkbench v = with(0, 0, 0, 0, 0, 0, 0, 0, 0, 0);
        due.is("2: 11th source, the 1st register", v.add(REGISTER, 0, 0, 0), FULL);
        due.is("2: no source", v.add(NOT, 0, 0, 0), 10);
        v.drop();
        v.drop();
        due.is("2: a source has gone", v.add(REGISTER, 0, 0, 0), 9);
        due.is("2: 10 again", v.add(INPUT, 0, 0, 0), FULL);
    }

    private static void change() {
        GateWorkbench w = with(INPUT, INPUT, REGISTER, AND, NOT);
        w.change(3, AND, 0, 1, 0);
        w.change(4, NOT, 3, 0, 0);
        due.is("3: AND", w.count(3), 2);
        due.is("3: an input", w.change(0, CONSTANT, 1, 0, 0), false);
        due.is("3: a register", w.change(2, CONSTANT, 1, 0, 0), false);
        due.is("3: to an input", w.change(3, INPUT, 0, 0, 0), false);
        due.is("3: to a register", w.change(3, REGISTER, 0, 0, 0), false);
        due.is("3: kind 8", w.change(3, 8, 0, 0, 0), false);
        due.is("3: kind -1", w.change(3, -1, 0, 0, 0), false);
        due.is("3: constant 2", w.change(3, CONSTANT, 2, 0, 0), false);
        due.is("3: x is itself", w.change(3, OR, 3, 0, 0), false);
        due.is("3: y is itself", w.change(3, OR, 0, 3, 0), false);
        due.is("3: z is above", w.change(3, MUX, 0, 1, 4), false);
        due.is("3: x below 0", w.change(3, NOT, -1, 0, 0), false);
        due.is("3: no net", w.change(5, NOT, 0, 0, 0), false);
        due.is("3: net -1", w.change(-1, NOT, 0, 0, 0), false);
        due.is("3: nothing has changed", w.count(3), 2);
        due.is("3: nothing has changed above", w.count(4), 6);
        due.is("3: nothing has changed below", w.count(0), 4);
        due.is("3: to OR", w.change(3, OR, 0, 1, 99), true);
        due.is("3: OR", w.count(3), 6);
        due.is("3: NOT OR", w.count(4), 2);
        due.is("3: to itself", w.change(3, OR, 0, 1, 0), true);
        due.is("3: to the net just below", w.change(4, MUX, 3, 3, 3), true);
        due.is("3: same", w.same(3, 4), true);
        due.is("3: to a constant", w.change(3, CONSTANT, 1, -1, -1), true);
        due.is("3: constant", w.count(4), 8);
        due.is("3: to NOT", w.change(3, NOT, 2, 99, -1), true);
        due.is("3: NOT of the register", w.witness(3, 0), 0);
        due.is("3: no more sources than before", w.count(0), 4);
    }

    private static void next() {
        GateWorkbench w = with(INPUT, REGISTER, REGISTER, NOT);
        w.set(1, true);
        due.is("4: at first itself", w.tick(3), 1);
        due.is("4: an input has none", w.next(0, 1), false);
        due.is("4: a NOT has none", w.next(3, 1), false);
        due.is("4: no register", w.next(4, 1), false);
        due.is("4: register -1", w.next(-1, 1), false);
        due.is("4: no net", w.next(1, 4), false);
        due.is("4: net -1", w.next(1, -1), false);
        due.is("4: nothing has changed", w.tick(1), 1);
        due.is("4: a register", w.next(2, 1), true);
        due.is("4: a net above", w.next(1, 3), true);
        due.is("4: 1 0", w.tick(1), 3);
        w.set(0, true);
        due.is("4: 1 1", w.tick(1), 2);
        due.is("4: a net below", w.next(1, 0), true);
        due.is("4: the input's value", w.tick(1), 1);
        due.is("4: itself", w.next(2, 2), true);
        due.is("4: keeps", w.tick(1), 1);
    }

    private static void drop() {
        GateWorkbench w = with(REGISTER, INPUT, NOT);
        w.next(0, 2);
        due.is("5: NEXT of another", w.drop(), REFUSED);
        due.is("5: still there", w.value(2), 1);
        w.next(0, 1);
        due.is("5: no more", w.drop(), 2);
        due.is("5: gone", w.value(2), REFUSED);
        due.is("5: an input that is a NEXT", w.drop(), REFUSED);
        w.next(0, 0);
        due.is("5: an input", w.drop(), 1);
        due.is("5: fewer assignments", w.count(0), 1);
        due.is("5: its own NEXT", w.drop(), 0);
        due.is("5: none is left", w.drop(), REFUSED);
        GateWorkbench v = with(REGISTER, REGISTER);
        v.next(1, 0);
        due.is("5: its NEXT is a lower one", v.drop(), 1);
        due.is("5: one register", v.soonest(2), REFUSED);
        GateWorkbench u = with(REGISTER, REGISTER);
        u.next(0, 1);
        due.is("5: register that is a NEXT", u.drop(), REFUSED);
        u.next(1, 0);
        due.is("5: register that is a NEXT, with another one", u.drop(), REFUSED);
    }

    private static void dropAndMakeAgain() {
        GateWorkbench w = with(INPUT, REGISTER);
        w.next(1, 0);
        w.set(1, true);
        w.drop();
        w.add(REGISTER, 0, 0, 0);
        due.is("5: a new register's state", w.value(1), 0);
        w.set(0, true);
        due.is("5: a new register's NEXT", w.tick(1), 0);
        w.next(1, 0);
        w.drop();
        w.drop();
        w.add(INPUT, 0, 0, 0);
        due.is("5: a new input's value", w.value(0), 0);
        GateWorkbench v = with(REGISTER, REGISTER);
        v.next(1, 0);
        v.drop();
        v.add(INPUT, 0, 0, 0);
        v.set(0, true);
        v.tick(1);
        due.is("5: an input where a register was", v.value(1), 0);
        v.drop();
        v.add(NOT, 0, 0, 0);
        v.drop();
        due.is("5: a dropped register's NEXT holds nobody", v.drop(), 0);
    }

    private static void set() {
        GateWorkbench w = with(INPUT, CONSTANT, REGISTER, NOT);
        due.is("6: an input", w.set(0, true), true);
        due.is("6: 1", w.value(0), 1);
        due.is("6: a constant", w.set(1, true), false);
        due.is("6: nothing has changed", w.value(1), 0);
        due.is("6: a register", w.set(2, true), true);
        due.is("6: its state", w.tick(0), 1);
        due.is("6: to 0", w.set(2, false), true);
        due.is("6: its state then", w.tick(0), 0);
        due.is("6: a NOT", w.set(3, true), false);
        due.is("6: no net", w.set(4, true), false);
        due.is("6: net -1", w.set(-1, true), false);
        due.is("6: the input again", w.set(0, false), true);
        due.is("6: 0", w.value(0), 0);
    }

    private static void value() {
        GateWorkbench w = with(INPUT, INPUT, INPUT, CONSTANT, CONSTANT);
        w.change(4, CONSTANT, 1, 0, 0);
        w.add(NOT, 0, 0, 0);
        w.add(AND, 0, 1, 0);
        w.add(OR, 0, 1, 0);
        w.add(XOR, 0, 1, 0);
        w.add(MUX, 0, 1, 2);
        for (int a = 0; a < 8; a++) {
            int x = a & 1;
            int y = a >> 1 & 1;
            int z = a >> 2 & 1;
            w.set(0, x == 1);
            w.set(1, y == 1);
            w.set(2, z == 1);
            due.is("7: input", w.value(2), z);
            due.is("7: constant 0", w.value(3), 0);
            due.is("7: constant 1", w.value(4), 1);
            due.is("7: NOT", w.value(5), 1 - x);
            due.is("7: AND", w.value(6), x & y);
            due.is("7: OR", w.value(7), x | y);
            due.is("7: XOR", w.value(8), x ^ y);
            due.is("7: MUX", w.value(9), x == 1 ? y : z);
        }
        due.is("7: no net", w.value(10), REFUSED);
        due.is("7: net -1", w.value(-1), REFUSED);
        due.is("7: net MAX", w.value(MAX), REFUSED);
        while (w.add(NOT, 0, 0, 0) != FULL) {
            w.value(0);
        }
        due.is("7: the net 31 is 0", w.value(31), 0);
        w.set(0, false);
        due.is("7: the net 31 is 1", w.value(31), 1);
    }

    private static void count() {
        GateWorkbench w = with(INPUT, REGISTER, AND);
        w.change(2, AND, 0, 1, 0);
        due.is("8: AND", w.count(2), 1);
        due.is("8: a source", w.count(1), 2);
        w.set(0, true);
        due.is("8: not of the values now", w.count(2), 1);
        w.add(INPUT, 0, 0, 0);
        due.is("8: one more source", w.count(2), 2);
        due.is("8: no net", w.count(4), REFUSED);
        due.is("8: net -1", w.count(-1), REFUSED);
        GateWorkbench v = with(0, 0, 0, 0, 0, 0, 0, 0, 0, 0);
        v.add(XOR, 0, 9, 0);
        v.add(CONSTANT, 1, 0, 0);
        due.is("8: 10 sources", v.count(10), 512);
        due.is("8: all of them", v.count(11), 1024);
    }

    private static void witness() {
        GateWorkbench w = with(INPUT, NOT, REGISTER);
        w.add(AND, 1, 2, 0);
        w.add(CONSTANT, 0, 0, 0);
        due.is("9: source 0", w.witness(0, 0), 1);
        due.is("9: source 1 is net 2", w.witness(2, 0), 2);
        due.is("9: AND", w.witness(3, 0), 2);
        due.is("9: from the very one", w.witness(3, 2), 2);
        due.is("9: from above", w.witness(3, 3), REFUSED);
        due.is("9: the last", w.witness(0, 2), 3);
        due.is("9: beyond the last", w.witness(0, 4), REFUSED);
        due.is("9: from MAX", w.witness(0, MAX), REFUSED);
        due.is("9: from MIN", w.witness(0, MIN), 1);
        due.is("9: from -1", w.witness(1, -1), 0);
        due.is("9: never 1", w.witness(4, 0), REFUSED);
        due.is("9: no net", w.witness(5, 0), REFUSED);
        due.is("9: net -1", w.witness(-1, 0), REFUSED);
        GateWorkbench v = with(0, 0, 0, 0, 0, 0, 0, 0, 0, 0);
        due.is("9: 10 sources", v.witness(9, 0), 512);
        due.is("9: the last of 1024", v.witness(9, 1023), 1023);
        due.is("9: 1024", v.witness(9, 1024), REFUSED);
    }

    private static void same() {
        GateWorkbench w = with(INPUT, INPUT);
        w.add(AND, 0, 1, 0);
        w.add(NOT, 0, 0, 0);
        w.add(NOT, 1, 0, 0);
        w.add(OR, 3, 4, 0);
        w.add(NOT, 5, 0, 0);
        due.is("10: by De Morgan", w.same(2, 6), true);
        due.is("10: the other way round", w.same(6, 2), true);
        due.is("10: with itself", w.same(2, 2), true);
        due.is("10: its NOT", w.same(2, 5), false);
        due.is("10: two inputs with the same value now", w.same(0, 1), false);
        w.add(OR, 0, 1, 0);
        w.add(CONSTANT, 1, 0, 0);
        w.add(CONSTANT, 0, 0, 0);
        due.is("10: they differ with assignment 0 alone", w.same(7, 8), false);
        due.is("10: they differ with assignment 3 alone", w.same(2, 9), false);
        due.is("10: a is no net", w.same(10, 0), false);
        due.is("10: b is no net", w.same(0, 10), false);
        due.is("10: both are none", w.same(-1, -1), false);
        due.is("10: both are none, above", w.same(10, 10), false);
    }

    private static void depends() {
        GateWorkbench w = with(CONSTANT, INPUT, REGISTER, INPUT);
        w.add(AND, 1, 2, 0);
        w.add(XOR, 3, 3, 0);
        w.add(OR, 4, 5, 0);
        due.is("11: on net 1", w.depends(6, 1), true);
        due.is("11: on net 2", w.depends(6, 2), true);
        due.is("11: chains alone are not enough", w.depends(6, 3), false);
        due.is("11: a source on itself", w.depends(3, 3), true);
        due.is("11: a source on another", w.depends(3, 1), false);
        due.is("11: on a constant", w.depends(6, 0), false);
        due.is("11: on a gate", w.depends(6, 4), false);
        due.is("11: no net", w.depends(7, 1), false);
        due.is("11: net -1", w.depends(-1, 1), false);
        due.is("11: no source", w.depends(6, 7), false);
        due.is("11: source -1", w.depends(6, -1), false);
        w.next(2, 3);
        due.is("11: not through a NEXT", w.depends(2, 3), false);
    }

    private static void tests() {
        GateWorkbench w = with(INPUT, INPUT);
        w.add(AND, 0, 1, 0);
        w.add(INPUT, 0, 0, 0);
        w.add(OR, 2, 3, 0);
        due.is("12: AND stuck at 1", w.tests(2, true, 4), 3);
        due.is("12: AND stuck at 0", w.tests(2, false, 4), 1);
        due.is("12: seen at itself", w.tests(2, true, 2), 6);
        due.is("12: an input stuck at 1", w.tests(0, true, 4), 1);
        due.is("12: an input seen at itself", w.tests(0, false, 0), 4);
        due.is("12: out does not feel it", w.tests(4, true, 2), 0);
        due.is("12: no net", w.tests(5, true, 4), REFUSED);
        due.is("12: no out", w.tests(4, true, 5), REFUSED);
        due.is("12: net -1", w.tests(-1, true, 4), REFUSED);
        due.is("12: out -1", w.tests(4, true, -1), REFUSED);
        w.set(0, true);
        w.tests(0, false, 4);
        due.is("12: nothing has changed", w.value(0), 1);
        w.add(XOR, 2, 2, 0);
        due.is("12: both branches feel it", w.tests(2, true, 5), 0);
    }

    private static void primes() {
        GateWorkbench w = with(INPUT, INPUT, INPUT);
        w.add(MUX, 0, 1, 2);
        w.add(XOR, 0, 1, 0);
        w.add(XOR, 4, 2, 0);
        w.add(CONSTANT, 1, 0, 0);
        w.add(CONSTANT, 0, 0, 0);
        w.add(OR, 0, 4, 0);
        due.is("13: MUX has its consensus too", w.primes(3), 3);
        due.is("13: XOR of two", w.primes(4), 2);
        due.is("13: XOR of three", w.primes(5), 4);
        due.is("13: 1", w.primes(6), 1);
        due.is("13: 0", w.primes(7), 0);
        due.is("13: x or (x xor y)", w.primes(8), 2);
        due.is("13: an input", w.primes(2), 1);
        due.is("13: no net", w.primes(9), REFUSED);
        due.is("13: net -1", w.primes(-1), REFUSED);
    }

    private static void primesLimit() {
        GateWorkbench w = with(0, 0, 0, 0, 0, 0, 0, 0, 0, 0);
        w.add(XOR, 9, 8, 0);
        for (int n = 11; n < 15; n++) {
            w.add(XOR, n - 1, 18 - n, 0);
        }
        due.is("13: XOR of six of ten", w.primes(14), 32);
        w.add(XOR, 14, 0, 0);
        due.is("13: XOR of seven", w.primes(15), FULL);
        w.add(XOR, 0, 0, 0);
        w.add(AND, 16, 15, 0);
        due.is("13: chains from seven, but depends on none", w.primes(17), 0);
        w.add(OR, 16, 14, 0);
        due.is("13: chains from seven, depends on six", w.primes(18), 32);
        due.is("13: no net before FULL", w.primes(32), REFUSED);
        GateWorkbench v = with(0, 0, 0, 0, 0, 0);
        v.add(AND, 0, 1, 0);
        v.add(AND, 2, 3, 0);
        v.add(AND, 4, 5, 0);
        v.add(OR, 6, 7, 0);
        v.add(OR, 9, 8, 0);
        v.add(NOT, 10, 0, 0);
        due.is("13: three pairs", v.primes(10), 3);
        due.is("13: none of three pairs", v.primes(11), 8);
    }

    private static void level() {
        GateWorkbench w = with(INPUT, INPUT, REGISTER, INPUT);
        w.add(AND, 0, 1, 0);
        w.add(AND, 2, 3, 0);
        w.add(OR, 4, 5, 0);
        w.add(NOT, 6, 0, 0);
        w.add(XOR, 7, 0, 0);
        due.is("14: an input", w.level(0, 1), 0);
        due.is("14: a register", w.level(2, 3), 0);
        due.is("14: AND, 2", w.level(4, 2), 1);
        due.is("14: AND, 1", w.level(4, 1), REFUSED);
        due.is("14: four inputs, 3", w.level(6, 3), 2);
        due.is("14: four inputs, 2", w.level(6, 2), 2);
        due.is("14: its NOT is taken in", w.level(7, 2), 2);
        due.is("14: a chain more, 2", w.level(8, 2), 3);
        due.is("14: a chain more, 3", w.level(8, 3), 2);
        due.is("14: above one that has none", w.level(7, 1), REFUSED);
        due.is("14: k 0", w.level(4, 0), REFUSED);
        due.is("14: k 4", w.level(4, 4), REFUSED);
        due.is("14: k MIN", w.level(4, MIN), REFUSED);
        due.is("14: k 0 of an input", w.level(0, 0), REFUSED);
        due.is("14: k 4 of an input", w.level(0, 4), REFUSED);
        due.is("14: no net", w.level(9, 2), REFUSED);
        due.is("14: net -1", w.level(-1, 2), REFUSED);
        GateWorkbench v = with(INPUT, INPUT, INPUT);
        v.add(MUX, 0, 1, 2);
        v.add(MUX, 0, 1, 1);
        v.add(MUX, 0, 0, 0);
        v.add(XOR, 5, 0, 0);
        due.is("14: MUX, 3", v.level(3, 3), 1);
        due.is("14: MUX, 2", v.level(3, 2), REFUSED);
        due.is("14: MUX of two, 2", v.level(4, 2), 1);
        due.is("14: MUX of one, 1", v.level(5, 1), 1);
        due.is("14: all from one, 1", v.level(6, 1), 1);
    }

    private static void levelWithoutChains() {
        GateWorkbench w = new GateWorkbench();
        w.add(CONSTANT, 1, 0, 0);
        w.add(INPUT, 0, 0, 0);
        w.add(NOT, 0, 0, 0);
        w.add(XOR, 0, 2, 0);
        w.add(MUX, 1, 3, 2);
        w.add(CONSTANT, 1, 0, 0);
        w.add(INPUT, 0, 0, 0);
        w.add(AND, 5, 6, 0);
        due.is("14: NOT of a constant", w.level(2, 1), 1);
        due.is("14: two steps from constants", w.level(3, 1), 1);
        due.is("14: MUX of an input and constants", w.level(4, 1), 1);
        due.is("14: x of a constant leads nowhere", w.level(7, 1), 1);
        due.is("14: a constant above an input", w.level(5, 1), 0);
    }

    /** The nearest SET is too wide here; one further back is not. */
    private static void levelNeedsWideView() {
        GateWorkbench w = with(INPUT, INPUT, INPUT, INPUT);
        w.add(XOR, 0, 1, 0);
        w.add(XOR, 2, 3, 0);
        w.add(AND, 4, 5, 0);
        w.add(OR, 4, 5, 0);
        w.add(XOR, 4, 5, 0);
        w.add(MUX, 6, 7, 8);
        due.is("14: back to two nets, 2", w.level(9, 2), 2);
        due.is("14: back to two nets, 3", w.level(9, 3), 2);
        GateWorkbench v = with(INPUT, INPUT);
        for (int n = 2; n < 32; n++) {
            v.add(XOR, n - 1, n - 2, 0);
        }
        due.is("14: a long one from two, 2", v.level(31, 2), 1);
        due.is("14: a long one from two, 1", v.level(31, 1), REFUSED);
        GateWorkbench u = with(0, 0, 0, 0, 0, 0, 0, 0, 0, 0);
        u.add(AND, 0, 1, 0);
        for (int n = 11; n < 19; n++) {
            u.add(AND, n - 1, n - 9, 0);
        }
        due.is("14: a row of ten, 2", u.level(18, 2), 9);
        due.is("14: a row of ten, 3", u.level(18, 3), 5);
    }

    private static void tick() {
        GateWorkbench w = counter();
        due.is("15: below 0", w.tick(-1), REFUSED);
        due.is("15: MIN", w.tick(MIN), REFUSED);
        due.is("15: the input is 0", w.tick(5), 0);
        w.set(0, true);
        due.is("15: 0 ticks", w.tick(0), 0);
        due.is("15: 1", w.tick(1), 1);
        due.is("15: 7", w.tick(6), 7);
        due.is("15: refused changes nothing", w.tick(-1), REFUSED);
        due.is("15: states", w.value(3), 1);
        due.is("15: round", w.tick(1), 0);
        due.is("15: MAX", w.tick(MAX), 7);
        due.is("15: the input stays", w.value(0), 1);
        due.is("15: a gate's value then", w.value(4), 0);

        GateWorkbench v = with(REGISTER, REGISTER, REGISTER);
        v.set(2, true);
        v.set(1, true);
        v.next(0, 1);
        v.next(1, 2);
        v.next(2, 0);
        due.is("15: all at once", v.tick(1), 3);
        due.is("15: all at once again", v.tick(1), 5);
        v.add(CONSTANT, 0, 0, 0);
        v.next(2, 3);
        due.is("15: into a tail", v.tick(2), 1);
        due.is("15: to its end", v.tick(MAX), 0);
    }

    private static void cycle() {
        GateWorkbench w = counter();
        due.is("16: stands", w.cycle(0), 0);
        due.is("16: comes again at once", w.cycle(1), 1);
        w.set(0, true);
        w.tick(3);
        due.is("16: no tail", w.cycle(0), 0);
        due.is("16: eight", w.cycle(1), 8);
        due.is("16: what 2", w.cycle(2), REFUSED);
        due.is("16: what -1", w.cycle(-1), REFUSED);
        due.is("16: no change", w.tick(0), 3);
        due.is("16: no change of the input", w.value(0), 1);

        GateWorkbench v = with(REGISTER, REGISTER, REGISTER, CONSTANT);
        v.next(0, 3);
        v.next(1, 0);
        v.next(2, 1);
        v.set(0, true);
        due.is("16: tail of a shift", v.cycle(0), 3);
        due.is("16: then it stands", v.cycle(1), 1);
        v.tick(1);
        due.is("16: from now on", v.cycle(0), 2);

        GateWorkbench u = with(1, 1, 1, 1, 1, 1, CONSTANT);
        u.set(0, true);
        for (int n = 1; n < 6; n++) {
            u.next(n, n - 1);
        }
        due.is("16: fills", u.cycle(0), 5);
        u.next(0, 5);
        due.is("16: rings", u.cycle(1), 6);
        due.is("16: no tail in a ring", u.cycle(0), 0);
    }

    private static void configurations() {
        GateWorkbench w = counter();
        due.is("17: eight, by the input's values", w.configurations(), 8);
        w.next(3, 3);
        due.is("17: four", w.configurations(), 4);
        w.set(3, true);
        due.is("17: from configuration 0, not from now", w.configurations(), 4);
        due.is("17: registers that keep", with(1, 1, 1).configurations(), 1);
        due.is("17: no nets", new GateWorkbench().configurations(), 1);
        due.is("17: no registers", with(0, 0, 0).configurations(), 1);

        GateWorkbench v = with(0, 0, 0, 0, 1, 1, 1, 1, 1, 1);
        for (int n = 4; n < 10; n++) {
            v.next(n, n == 4 ? 0 : n - 1);
        }
        due.is("17: all 64", v.configurations(), 64);
    }

    private static void soonest() {
        GateWorkbench w = counter();
        for (int c = 0; c < 8; c++) {
            due.is("18: " + c, w.soonest(c), c);
        }
        due.is("18: no such", w.soonest(8), REFUSED);
        due.is("18: -1", w.soonest(-1), REFUSED);
        due.is("18: MAX", w.soonest(MAX), REFUSED);
        w.next(2, 2);
        due.is("18: can't come", w.soonest(2), REFUSED);

        GateWorkbench v = with(REGISTER, INPUT, REGISTER, REGISTER);
        v.next(0, 1);
        v.next(2, 0);
        v.next(3, 2);
        due.is("18: other values for each tick", v.soonest(5), 3);
        due.is("18: one tick", v.soonest(1), 1);
        due.is("18: two ticks", v.soonest(2), 2);
    }

    private static void alarm() {
        GateWorkbench w = counter();
        w.add(AND, 3, 0, 0);
        w.add(AND, 9, 2, 0);
        w.add(XOR, 0, 0, 0);
        due.is("19: some value of the input", w.alarm(0), 0);
        due.is("19: the third register", w.alarm(3), 4);
        due.is("19: with the input too", w.alarm(9), 4);
        due.is("19: two registers", w.alarm(10), 6);
        due.is("19: its NEXT", w.alarm(8), 3);
        due.is("19: never", w.alarm(11), REFUSED);
        due.is("19: no net", w.alarm(12), REFUSED);
        due.is("19: net -1", w.alarm(-1), REFUSED);
        w.next(3, 3);
        due.is("19: cannot come", w.alarm(3), REFUSED);
        w.set(3, true);
        due.is("19: not from now", w.alarm(3), REFUSED);
    }

    private static void apart() {
        GateWorkbench w = counter();
        due.is("20: the register itself", w.apart(3, 0, 4), 0);
        due.is("20: one tick", w.apart(3, 0, 3), 1);
        due.is("20: the other way round", w.apart(3, 3, 0), 1);
        due.is("20: four ticks", w.apart(3, 0, 1), 3);
        due.is("20: only with the input 1", w.apart(8, 0, 3), 0);
        due.is("20: the input is the same for both", w.apart(0, 0, 7), REFUSED);
        due.is("20: the low register", w.apart(1, 0, 2), REFUSED);
        due.is("20: with itself", w.apart(3, 5, 5), REFUSED);
        due.is("20: no net", w.apart(9, 0, 1), REFUSED);
        due.is("20: net -1", w.apart(-1, 0, 1), REFUSED);
        due.is("20: c 8", w.apart(3, 8, 0), REFUSED);
        due.is("20: d 8", w.apart(3, 0, 8), REFUSED);
        due.is("20: c -1", w.apart(3, -1, 0), REFUSED);
        due.is("20: d -1", w.apart(3, 0, -1), REFUSED);
        GateWorkbench v = with(1, 1, 1, 1, 1, 1);
        for (int n = 0; n < 5; n++) {
            v.next(n, n + 1);
        }
        due.is("20: along a shift", v.apart(0, 0, 32), 5);
        due.is("20: the nearest difference counts", v.apart(0, 0, 36), 2);
        due.is("20: lost on the other way", v.apart(5, 0, 1), REFUSED);
    }

    private static void classes() {
        GateWorkbench w = counter();
        due.is("21: all differ", w.classes(3), 8);
        due.is("21: two registers", w.classes(2), 4);
        due.is("21: one register", w.classes(1), 2);
        due.is("21: the input", w.classes(0), 1);
        due.is("21: no net", w.classes(9), REFUSED);
        due.is("21: net -1", w.classes(-1), REFUSED);
        due.is("21: also such as cannot come", with(1, 1, 1).classes(1), 2);
        GateWorkbench v = with(1, 1, 1, 1, 1, 1);
        for (int n = 0; n < 5; n++) {
            v.next(n, n + 1);
        }
        due.is("21: all 64", v.classes(0), 64);
        due.is("21: half", v.classes(1), 32);
        due.is("21: two", v.classes(5), 2);
    }

    private static void order() {
        GateWorkbench w = new GateWorkbench();
        for (int n = 0; n < 32; n++) {
            w.add(CONSTANT, 0, 0, 0);
        }
        due.is("22: kind 8 before FULL", w.add(8, 0, 0, 0), REFUSED);
        due.is("22: operand before FULL", w.add(NOT, 32, 0, 0), REFUSED);
        due.is("22: constant before FULL", w.add(CONSTANT, 2, 0, 0), REFUSED);
        due.is("22: FULL", w.add(NOT, 31, 0, 0), FULL);
        due.is("22: an input, FULL", w.add(INPUT, 0, 0, 0), FULL);
    }

    private static void independence() {
        GateWorkbench w = counter();
        for (int a = 0; a < 16; a++) {
            for (int source = 0; source < 4; source++) {
                w.set(source, (a >> source & 1) == 1);
            }
            w.cycle(0);
            w.cycle(1);
            due.is("22: configurations", w.configurations(), 8);
            due.is("22: soonest", w.soonest(5), 5);
            due.is("22: alarm", w.alarm(3), 4);
            due.is("22: apart", w.apart(3, 0, 1), 3);
            due.is("22: classes", w.classes(2), 4);
            due.is("22: nothing has changed", w.tick(0), a >> 1);
            due.is("22: nor the input", w.value(0), a & 1);
        }
    }

    private static void wrongNetsEverywhere() {
        GateWorkbench w = counter();
        w.set(0, true);
        w.tick(5);
        int[] wrong = {-1, 9, 31, 32, 33, MIN, MAX};
        for (int net : wrong) {
            due.is("wrong value", w.value(net), REFUSED);
            due.is("wrong count", w.count(net), REFUSED);
            due.is("wrong witness", w.witness(net, 0), REFUSED);
            due.is("wrong same", w.same(net, net), false);
            due.is("wrong depends", w.depends(net, net), false);
            due.is("wrong tests", w.tests(net, true, net), REFUSED);
            due.is("wrong primes", w.primes(net), REFUSED);
            due.is("wrong level", w.level(net, 3), REFUSED);
            due.is("wrong alarm", w.alarm(net), REFUSED);
            due.is("wrong apart", w.apart(net, 0, 1), REFUSED);
            due.is("wrong classes", w.classes(net), REFUSED);
            due.is("wrong set", w.set(net, true), false);
            due.is("wrong next", w.next(net, net), false);
            due.is("wrong change", w.change(net, NOT, 0, 0, 0), false);
        }
        due.is("wrong calls change nothing", w.tick(0), 5);
    }
}
