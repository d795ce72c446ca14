/** The boundaries that promises 1 to 7 name, a test for each sentence. */
public final class MakingEdgesTest extends Edges {
    private static final int[] OPERANDS = {0, 0, 0, 1, 2, 2, 2, 3};

    public static void main(String[] args) {
        noNets();
        noNetsToCount();
        addAnswersNumber();
        addKindOutside();
        addOperandIsNoNet();
        addLooksAtNamedOperands();
        addConstantOutside();
        addWith32();
        add11thSource();
        add7thRegister();
        changeOfSource();
        changeToOtherKinds();
        changeOperandsBelow();
        changeLooksAtNamedOperands();
        changeConstantOutside();
        changeOfNoNet();
        changeFirstAndLast();
        nextOfNoRegister();
        nextNoNet();
        nextFirstAndLast();
        dropHowManyAreLeft();
        dropNone();
        dropNextOfAnother();
        dropItsOwnNext();
        dropLeavesNothing();
        setBecomesOneOrZero();
        setNoSource();
        valueOfNone();
        valueOfFirstAndLast();
        end();
    }

    private static void noNets() {
        sentence("Promise 1", "No nets.");
        GateWorkbench w = new GateWorkbench();
        is("change", w.change(0, CONSTANT, 0, 0, 0), false);
        is("next", w.next(0, 0), false);
        is("drop", w.drop(), REFUSED);
        is("set", w.set(0, true), false);
        is("value", w.value(0), REFUSED);
        is("count", w.count(0), REFUSED);
        is("witness", w.witness(0, 0), REFUSED);
        is("same", w.same(0, 0), false);
        is("depends", w.depends(0, 0), false);
        is("tests", w.tests(0, true, 0), REFUSED);
        is("primes", w.primes(0), REFUSED);
        is("level", w.level(0, 1), REFUSED);
        is("alarm", w.alarm(0), REFUSED);
        is("apart", w.apart(0, 0, 0), REFUSED);
        is("classes", w.classes(0), REFUSED);
        for (int kind = NOT; kind <= MUX; kind++) {
            is("there is no operand for kind " + kind, w.add(kind, 0, 0, 0), REFUSED);
        }
        is("the first net", w.add(INPUT, 0, 0, 0), 0);
    }

    private static void noNetsToCount() {
        sentence("Promise 1", "No nets.");
        GateWorkbench w = new GateWorkbench();
        is("no ticks", w.tick(0), 0);
        is("a tick", w.tick(1), 0);
        is("MAX ticks", w.tick(MAX), 0);
        is("-1 ticks", w.tick(-1), REFUSED);
        is("configuration 0 comes again", w.cycle(0), 0);
        is("at once", w.cycle(1), 1);
        is("no third question", w.cycle(2), REFUSED);
        is("configuration 0 alone", w.configurations(), 1);
        is("it is there", w.soonest(0), 0);
        is("there is no other", w.soonest(1), REFUSED);
    }

    private static void addAnswersNumber() {
        sentence("Promise 2", "Makes a net: its number.");
        for (int kind = INPUT; kind <= MUX; kind++) {
            GateWorkbench w = with(INPUT);
            is("the second, kind " + kind, w.add(kind, 0, 0, 0), 1);
            is("it is there", w.value(1) != REFUSED, true);
            is("no more are there", w.value(2), REFUSED);
        }
        is("the first, an input", new GateWorkbench().add(INPUT, 0, 0, 0), 0);
        is("the first, a register", new GateWorkbench().add(REGISTER, 0, 0, 0), 0);
        is("the first, a constant", new GateWorkbench().add(CONSTANT, 0, 0, 0), 0);
    }

    private static void addKindOutside() {
        sentence("Promise 2", "REFUSED, and nothing changes, if kind is not 0 .. 7");
        for (int kind : new int[] {MIN, -256, -8, -2, -1, 8, 9, 10, 15, 16, 256, 263, MAX}) {
            leavesAll("kind " + kind, w -> w.add(kind, 0, 0, 0), REFUSED);
        }
        is("kind 8 without nets", new GateWorkbench().add(8, 0, 0, 0), REFUSED);
        is("kind -1 without nets", new GateWorkbench().add(-1, 0, 0, 0), REFUSED);
    }

    private static void addOperandIsNoNet() {
        sentence("Promise 2", "an operand (only those that the kind names are looked at) is no net");
        for (int wrong : new int[] {MIN, -32, -1, 10, 11, 31, 32, MAX}) {
            for (int kind = NOT; kind <= MUX; kind++) {
                int named = OPERANDS[kind];
                int gate = kind;
                leavesAll("x " + wrong, w -> w.add(gate, wrong, 9, 9), REFUSED);
                if (named >= 2) {
                    leavesAll("y " + wrong, w -> w.add(gate, 9, wrong, 9), REFUSED);
                }
                if (named >= 3) {
                    leavesAll("z " + wrong, w -> w.add(gate, 9, 9, wrong), REFUSED);
                }
            }
        }
        GateWorkbench w = with(INPUT, NOT);
        w.drop();
        is("a net that was dropped", w.add(NOT, 1, 0, 0), REFUSED);
    }

    private static void addLooksAtNamedOperands() {
        sentence("Promise 2", "(only those that the kind names are looked at)");
        for (int other : new int[] {MIN, -1, 10, 32, MAX}) {
            is("INPUT", mixed().add(INPUT, other, other, other), 10);
            is("REGISTER", mixed().add(REGISTER, other, other, other), 10);
            is("CONSTANT", mixed().add(CONSTANT, 1, other, other), 10);
            is("NOT", mixed().add(NOT, 9, other, other), 10);
            is("AND", mixed().add(AND, 9, 0, other), 10);
            is("OR", mixed().add(OR, 0, 9, other), 10);
            is("XOR", mixed().add(XOR, 9, 9, other), 10);
            GateWorkbench w = with(INPUT, INPUT);
            w.add(CONSTANT, 1, other, other);
            w.add(AND, 0, 1, other);
            w.add(INPUT, other, other, other);
            is("CONSTANT is as asked", w.count(2), 8);
            is("AND is as asked", w.count(3), 2);
            is("INPUT has 0", w.value(4), 0);
            is("AND's level is that of two", w.level(3, 2), 1);
        }
    }

    private static void addConstantOutside() {
        sentence("Promise 2", "or x of a CONSTANT not 0 or 1");
        for (int x : new int[] {MIN, MIN + 1, -2, -1, 2, 3, 9, 256, MAX}) {
            leavesAll("x " + x, w -> w.add(CONSTANT, x, 0, 0), REFUSED);
        }
        GateWorkbench w = new GateWorkbench();
        is("0, though there is no net 0", w.add(CONSTANT, 0, 0, 0), 0);
        is("1, though there is no net 1", w.add(CONSTANT, 1, 0, 0), 1);
        is("the 0", w.value(0), 0);
        is("the 1", w.value(1), 1);
    }

    private static void addWith32() {
        sentence("Promise 2", "FULL if there are 32");
        for (int kind = INPUT; kind <= MUX; kind++) {
            int made = kind;
            leavesAll("kind " + kind, Bench::full, w -> w.add(made, 0, 0, 0), FULL);
        }
        GateWorkbench w = new GateWorkbench();
        for (int n = 0; n < 32; n++) {
            is("constant", w.add(CONSTANT, n % 2, 0, 0), n);
        }
        for (int kind = INPUT; kind <= MUX; kind++) {
            is("among constants, kind " + kind, w.add(kind, 0, 0, 0), FULL);
        }
        w.drop();
        is("an input is the 32nd", w.add(INPUT, 0, 0, 0), 31);
        is("a 33rd", w.add(INPUT, 0, 0, 0), FULL);
    }

    private static void add11thSource() {
        sentence("Promise 2", "or that would be an 11th source");
        leavesAll("input after inputs", Bench::tenInputs, w -> w.add(INPUT, 0, 0, 0), FULL);
        leavesAll("register after inputs", Bench::tenInputs, w -> w.add(REGISTER, 0, 0, 0), FULL);
        GateWorkbench w = with(0, 0, 0, 0, 0, 1, 1, 1, 1, 1);
        is("the 6th register would be the 11th source", w.add(REGISTER, 0, 0, 0), FULL);
        is("a constant is none", w.add(CONSTANT, 0, 0, 0), 10);
        is("a NOT is none", w.add(NOT, 9, 0, 0), 11);
        is("still ten", w.add(INPUT, 0, 0, 0), FULL);
        w.drop();
        w.drop();
        is("the tenth is dropped", w.drop(), 9);
        is("a tenth", w.add(INPUT, 0, 0, 0), 9);
        is("an 11th", w.add(REGISTER, 0, 0, 0), FULL);
    }

    private static void add7thRegister() {
        sentence("Promise 2", "or 7th register");
        leavesAll("after six", Bench::sixRegisters, w -> w.add(REGISTER, 0, 0, 0), FULL);
        GateWorkbench w = sixRegisters();
        is("an input is none", w.add(INPUT, 0, 0, 0), 6);
        is("a 7th", w.add(REGISTER, 0, 0, 0), FULL);
        w.drop();
        is("the sixth is dropped", w.drop(), 5);
        is("a sixth", w.add(REGISTER, 0, 0, 0), 5);
        is("a 7th again", w.add(REGISTER, 0, 0, 0), FULL);
        w.drop();
        w.add(INPUT, 0, 0, 0);
        is("a sixth after the input in its place", w.add(REGISTER, 0, 0, 0), 6);
        is("a 7th at last", w.add(REGISTER, 0, 0, 0), FULL);
    }

    private static void changeOfSource() {
        sentence("Promise 3", "A net that is no source becomes another such one");
        for (int kind = INPUT; kind <= MUX; kind++) {
            int to = kind;
            leavesAll("input 0 to " + to, w -> number(w.change(0, to, 0, 0, 0)), 0);
            leavesAll("register 1 to " + to, w -> number(w.change(1, to, 0, 0, 0)), 0);
            leavesAll("input 3 to " + to, w -> number(w.change(3, to, 0, 1, 2)), 0);
            leavesAll("register 4 to " + to, w -> number(w.change(4, to, 0, 1, 2)), 0);
        }
    }

    private static void changeToOtherKinds() {
        sentence("Promise 3", "(kind 2 .. 7)");
        for (int kind : new int[] {MIN, -1, 0, 1, 8, 9, 258, MAX}) {
            leavesAll("gate to " + kind, w -> number(w.change(7, kind, 0, 1, 2)), 0);
            leavesAll("constant to " + kind, w -> number(w.change(2, kind, 0, 1, 1)), 0);
        }
        int[] counts = {0, 0, 8, 4, 2, 6, 4, 4};
        for (int from = CONSTANT; from <= MUX; from++) {
            for (int to = CONSTANT; to <= MUX; to++) {
                GateWorkbench w = with(INPUT, INPUT, REGISTER);
                w.add(from, 1, 1, 1);
                is(from + " to " + to, w.change(3, to, 1, 0, 2), true);
                is("is then " + to, w.count(3), counts[to]);
            }
        }
    }

    private static void changeOperandsBelow() {
        sentence("Promise 3", "its operands being below it: true; false, and nothing changes, if it is not so");
        for (int wrong : new int[] {MIN, -1, 7, 8, 9, 10, 31, 32, MAX}) {
            for (int kind = NOT; kind <= MUX; kind++) {
                int to = kind;
                leavesAll("x " + wrong, w -> number(w.change(7, to, wrong, 6, 6)), 0);
                if (OPERANDS[kind] >= 2) {
                    leavesAll("y " + wrong, w -> number(w.change(7, to, 6, wrong, 6)), 0);
                }
                if (OPERANDS[kind] >= 3) {
                    leavesAll("z " + wrong, w -> number(w.change(7, to, 6, 6, wrong)), 0);
                }
            }
        }
        for (int kind = NOT; kind <= MUX; kind++) {
            is("just below, kind " + kind, mixed().change(7, kind, 6, 6, 6), true);
            is("net 0, kind " + kind, mixed().change(7, kind, 0, 0, 0), true);
        }
    }

    private static void changeLooksAtNamedOperands() {
        sentence("Promise 3", "its operands being below it");
        for (int other : new int[] {MIN, -1, 7, 10, MAX}) {
            is("CONSTANT", mixed().change(7, CONSTANT, 1, other, other), true);
            is("NOT", mixed().change(7, NOT, 6, other, other), true);
            is("AND", mixed().change(7, AND, 6, 0, other), true);
            is("OR", mixed().change(7, OR, 6, 0, other), true);
            is("XOR", mixed().change(7, XOR, 6, 0, other), true);
        }
    }

    private static void changeConstantOutside() {
        sentence("Promise 3", "false, and nothing changes, if it is not so");
        for (int x : new int[] {MIN, -1, 2, 3, MAX}) {
            leavesAll("gate to CONSTANT " + x, w -> number(w.change(7, CONSTANT, x, 0, 0)), 0);
            leavesAll("constant to CONSTANT " + x, w -> number(w.change(2, CONSTANT, x, 0, 0)), 0);
        }
        GateWorkbench w = with(CONSTANT);
        is("to 1", w.change(0, CONSTANT, 1, 0, 0), true);
        is("is 1", w.value(0), 1);
        is("to 0", w.change(0, CONSTANT, 0, 0, 0), true);
        is("is 0", w.value(0), 0);
    }

    private static void changeOfNoNet() {
        sentence("Promise 3", "false, and nothing changes, if it is not so");
        for (int net : NEVER_A_NET) {
            leavesAll("net " + net, w -> number(w.change(net, CONSTANT, 1, 0, 0)), 0);
        }
        leavesAll("net 10", w -> number(w.change(10, NOT, 0, 0, 0)), 0);
        GateWorkbench w = with(INPUT, NOT);
        w.drop();
        is("a net that was dropped", w.change(1, NOT, 0, 0, 0), false);
    }

    private static void changeFirstAndLast() {
        sentence("Promise 3", "A net that is no source becomes another such one");
        GateWorkbench w = with(CONSTANT, INPUT);
        for (int kind = NOT; kind <= MUX; kind++) {
            is("net 0 has none below it, kind " + kind, w.change(0, kind, 0, 0, 0), false);
        }
        is("net 0 to a constant", w.change(0, CONSTANT, 1, 0, 0), true);
        is("it is 1", w.value(0), 1);
        GateWorkbench v = full();
        is("net 31 of 32", v.change(31, MUX, 30, 29, 28), true);
        is("net 31 of itself", v.change(31, NOT, 31, 0, 0), false);
        is("net 31 is a NEXT still", v.drop(), REFUSED);
        is("net 31 to what it is", v.change(31, MUX, 30, 29, 28), true);
    }

    private static void nextOfNoRegister() {
        sentence("Promise 4", "false, and nothing changes, if there is no such register");
        for (int register : NEVER_A_NET) {
            leavesAll("register " + register, w -> number(w.next(register, 0)), 0);
        }
        for (int net : new int[] {0, 2, 3, 5, 6, 7, 8, 9, 10}) {
            leavesAll("net " + net, w -> number(w.next(net, 0)), 0);
            leavesAll("net " + net + ", itself", w -> number(w.next(net, net)), 0);
        }
        GateWorkbench w = with(INPUT, REGISTER);
        w.drop();
        is("a register that was dropped", w.next(1, 0), false);
        w.add(INPUT, 0, 0, 0);
        is("an input where a register was", w.next(1, 0), false);
    }

    private static void nextNoNet() {
        sentence("Promise 4", "if there is no such register or net");
        for (int net : NEVER_A_NET) {
            leavesAll("net " + net, w -> number(w.next(1, net)), 0);
        }
        leavesAll("net 10", w -> number(w.next(4, 10)), 0);
        leavesAll("net 31", w -> number(w.next(4, 31)), 0);
        leavesAll("neither", w -> number(w.next(10, 10)), 0);
    }

    private static void nextFirstAndLast() {
        sentence("Promise 4", "The NEXT of a register: true");
        GateWorkbench w = full();
        is("the first net", w.next(5, 0), true);
        is("the last net", w.next(5, 31), true);
        is("itself", w.next(5, 5), true);
        is("the last register's", w.next(5, 4), true);
        is("the first register's", w.next(0, 5), true);
        is("the same again", w.next(0, 5), true);
    }

    private static void dropHowManyAreLeft() {
        sentence("Promise 5", "Takes the net with the greatest number away: how many are left.");
        GateWorkbench w = new GateWorkbench();
        for (int n = 0; n < 32; n++) {
            w.add(CONSTANT, 1, 0, 0);
        }
        for (int left = 31; left >= 0; left--) {
            is("of " + (left + 1), w.drop(), left);
            is("it is gone", w.value(left), REFUSED);
            is("the one below is there", w.value(left - 1), left == 0 ? REFUSED : 1);
        }
    }

    private static void dropNone() {
        sentence("Promise 5", "REFUSED if there is none");
        GateWorkbench w = new GateWorkbench();
        is("at first", w.drop(), REFUSED);
        is("again", w.drop(), REFUSED);
        is("the first is 0 still", w.add(REGISTER, 0, 0, 0), 0);
        is("one", w.drop(), 0);
        is("none any more", w.drop(), REFUSED);
        is("the next is 0", w.add(INPUT, 0, 0, 0), 0);
        is("one source", w.count(0), 1);
    }

    private static void dropNextOfAnother() {
        sentence("Promise 5", "or it is the NEXT of another one");
        leavesAll("NEXT of the first register", w -> w.drop(), REFUSED);
        leavesAll("NEXT among 32", Bench::full, w -> w.drop(), REFUSED);
        leavesAll("an input", () -> registersBefore(INPUT), w -> w.drop(), REFUSED);
        leavesAll("a register", () -> registersBefore(REGISTER), w -> w.drop(), REFUSED);
        leavesAll("a constant", () -> registersBefore(CONSTANT), w -> w.drop(), REFUSED);
        GateWorkbench w = registersBefore(REGISTER);
        w.next(2, 2);
        is("another one's and its own", w.drop(), REFUSED);
        w.next(1, 0);
        is("its own alone", w.drop(), 2);
        GateWorkbench v = mixed();
        v.next(4, 9);
        v.next(1, 1);
        is("of the second register alone", v.drop(), REFUSED);
        v.next(4, 8);
        is("of none", v.drop(), 9);
        is("net 8 is one now", v.drop(), REFUSED);
    }

    private static GateWorkbench registersBefore(int last) {
        GateWorkbench w = with(REGISTER, REGISTER, last);
        w.next(1, 2);
        return w;
    }

    private static void dropItsOwnNext() {
        sentence("Promise 5", "the NEXT of another one");
        GateWorkbench w = with(INPUT, REGISTER);
        is("a register that is only its own NEXT", w.drop(), 1);
        GateWorkbench v = with(REGISTER);
        is("the only one", v.drop(), 0);
        GateWorkbench u = with(REGISTER, REGISTER);
        u.next(1, 0);
        is("one whose NEXT is lower", u.drop(), 1);
        is("the lower one then", u.drop(), 0);
    }

    /** A dropped register's NEXT and an input's place must not hold a later net. */
    private static void dropLeavesNothing() {
        sentence("Promise 5", "Takes the net with the greatest number away");
        GateWorkbench w = with(REGISTER, REGISTER, REGISTER);
        w.next(2, 1);
        w.drop();
        is("its NEXT was its own alone", w.drop(), 1);
        w.add(CONSTANT, 0, 0, 0);
        w.add(CONSTANT, 0, 0, 0);
        is("a constant where the register was", w.drop(), 2);
        is("and below", w.drop(), 1);
        is("assignments of one source", w.count(0), 1);
        is("configurations of one register", w.soonest(2), REFUSED);
        w.add(INPUT, 0, 0, 0);
        w.set(0, true);
        is("one register still", w.tick(1), 1);
        is("two sources", w.witness(1, 0), 2);
    }

    private static void setBecomesOneOrZero() {
        sentence("Promise 6", "The value of an input, or the state of a register, becomes 1 or 0: true");
        GateWorkbench w = mixed();
        is("a 1 to 1", w.set(0, true), true);
        is("is 1", w.value(0), 1);
        is("a 0 to 0", w.set(3, false), true);
        is("is 0", w.value(3), 0);
        is("the first register", w.set(1, true), true);
        is("the last register", w.set(4, false), true);
        is("states", w.tick(0), 1);
        GateWorkbench v = tenInputs();
        is("the tenth source", v.set(9, true), true);
        is("it alone", v.value(8), 0);
        is("it", v.value(9), 1);
        GateWorkbench u = with(2, 2, 2, 2, 2, 2, 2, 2, 2, 2, 2, 2, 2, 2, 2, 2);
        for (int n = 16; n < 31; n++) {
            u.add(CONSTANT, 0, 0, 0);
        }
        u.add(INPUT, 0, 0, 0);
        is("net 31", u.set(31, true), true);
        is("net 31 is 1", u.value(31), 1);
    }

    private static void setNoSource() {
        sentence("Promise 6", "false, and nothing changes, if it is no source");
        for (int net : NEVER_A_NET) {
            leavesAll("net " + net, w -> number(w.set(net, true)), 0);
        }
        for (int net : new int[] {2, 5, 6, 7, 8, 9, 10, 31}) {
            leavesAll("1, net " + net, w -> number(w.set(net, true)), 0);
            leavesAll("0, net " + net, w -> number(w.set(net, false)), 0);
        }
        GateWorkbench w = with(INPUT, INPUT);
        w.drop();
        is("an input that was dropped", w.set(1, true), false);
        w.add(INPUT, 0, 0, 0);
        is("nor has it 1 when made again", w.value(1), 0);
        w.drop();
        w.add(CONSTANT, 0, 0, 0);
        is("a constant where an input was", w.set(1, true), false);
    }

    private static void valueOfNone() {
        sentence("Promise 7", "REFUSED if there is none");
        GateWorkbench w = mixed();
        for (int net : NEVER_A_NET) {
            is("net " + net, w.value(net), REFUSED);
            is("without nets, net " + net, new GateWorkbench().value(net), REFUSED);
            is("with 32, net " + net, full().value(net), REFUSED);
        }
        is("net 10", w.value(10), REFUSED);
        is("net 31", w.value(31), REFUSED);
        w.next(1, 1);
        w.drop();
        is("dropped", w.value(9), REFUSED);
    }

    private static void valueOfFirstAndLast() {
        sentence("Promise 7", "The value of a net");
        GateWorkbench w = full();
        is("net 0", w.value(0), 0);
        is("net 18, the XOR of all ten", w.value(18), 0);
        w.set(0, true);
        is("net 0 then", w.value(0), 1);
        is("net 18 then", w.value(18), 1);
        is("net 31 of 22 XORs", w.value(31), w.value(30) ^ w.value(22));
    }
}
