import java.util.function.ToLongFunction;

/** The boundaries that the sections 'What it is' and 'Terms' name, a test for each sentence. */
public final class TermsEdgesTest extends Edges {
    public static void main(String[] args) {
        constants();
        at512Calls();
        anyNumberOfTicks();
        numbersOfNets();
        lowerOperands();
        sameOperandTwice();
        orderOfSources();
        tenSources();
        sixOfThemRegisters();
        inputAtFirst();
        registerAtFirst();
        nextIsAnyOne();
        allAtOnce();
        inputsStay();
        numbersOfAssignments();
        widths();
        levelOfSourceOrConstant();
        leastLevelFromOne();
        setOfAtMostK();
        membersBelow();
        membersBelowInAnyOrder();
        memberOtherThanIt();
        emptySet();
        noChainsThroughConstants();
        noSuchLevel();
        numbersOfConfigurations();
        canCome();
        end();
    }

    private static void constants() {
        sentence("The public face", "public static final int REFUSED = -1, FULL = -2;");
        is("REFUSED", GateWorkbench.REFUSED, -1);
        is("FULL", GateWorkbench.FULL, -2);
        is("a refused call", new GateWorkbench().drop(), -1);
        is("a call that finds no room", full().add(INPUT, 0, 0, 0), -2);
    }

    private static void at512Calls() {
        sentence("What it is", "An object is used for at most 512 calls after it has been made");
        call512("add", w -> w.add(NOT, 0, 0, 0), 9);
        call512("change", w -> number(w.change(8, OR, 7, 3, 0)), 1);
        call512("next", w -> number(w.next(1, 0)), 1);
        call512("drop", w -> w.drop(), REFUSED);
        call512("set", w -> number(w.set(0, false)), 1);
        call512("value", w -> w.value(2), 1);
        call512("count", w -> w.count(8), 8);
        call512("witness", w -> w.witness(8, 0), 7);
        call512("same", w -> number(w.same(4, 4)), 1);
        call512("depends", w -> number(w.depends(8, 3)), 1);
        call512("tests", w -> w.tests(5, true, 7), 6);
        call512("primes", w -> w.primes(8), 4);
        call512("level", w -> w.level(8, 3), 2);
        call512("tick", w -> w.tick(1), 3);
        call512("cycle", w -> w.cycle(1), 8);
        call512("configurations", w -> w.configurations(), 8);
        call512("soonest", w -> w.soonest(7), 7);
        call512("alarm", w -> w.alarm(3), 4);
        call512("apart", w -> w.apart(3, 0, 1), 3);
        call512("classes", w -> w.classes(2), 4);
    }

    private static void call512(String text, ToLongFunction<GateWorkbench> call, long want) {
        GateWorkbench w = counter();
        w.set(0, true);
        // The counter takes 12 calls to make, and set is the 13th.
        for (int calls = 14; calls < 512; calls++) {
            is("tick is call " + calls, w.tick(1), (calls - 13) % 8);
        }
        is(text + " is call 512", call.applyAsLong(w), want);
    }

    private static void anyNumberOfTicks() {
        sentence("What it is", "their values now and after any number of ticks");
        GateWorkbench w = roundCounter();
        is("now", w.value(0), 0);
        w.tick(1);
        is("after one", w.value(0), 1);
        w.tick(MAX);
        is("after the most", w.value(0), 0);
        is("after the most, the next register", w.value(1), 0);
    }

    private static void numbersOfNets() {
        sentence("Terms", "NETS are numbered 0, 1, .. in the order in which they are made, at most 32.");
        GateWorkbench w = new GateWorkbench();
        is("the first", w.add(INPUT, 0, 0, 0), 0);
        for (int n = 1; n < 32; n++) {
            is("NOT", w.add(NOT, n - 1, 0, 0), n);
        }
        is("the 32nd is there", w.value(31), 1);
        is("the 33rd is not made", w.add(NOT, 31, 0, 0), FULL);
        is("nor is it there", w.value(32), REFUSED);
        is("dropped", w.drop(), 31);
        is("its number is free again", w.add(NOT, 0, 0, 0), 31);
        is("there are 32 again", w.add(NOT, 0, 0, 0), FULL);
        is("the other nets are as before", w.value(30), 0);
    }

    private static void lowerOperands() {
        sentence("Terms", "the OPERANDS x, y, z are nets with lower numbers");
        GateWorkbench w = with(INPUT, INPUT, INPUT);
        for (int kind = NOT; kind <= MUX; kind++) {
            is("its own number as x", w.add(kind, kind, 0, 0), REFUSED);
            is("the number just below, and 0", w.add(kind, kind - 1, 0, 0), kind);
        }
        is("its own number as y of AND", w.add(AND, 0, 8, 0), REFUSED);
        is("its own number as y of MUX", w.add(MUX, 0, 8, 0), REFUSED);
        is("its own number as z of MUX", w.add(MUX, 0, 0, 8), REFUSED);
        is("all just below", w.add(MUX, 7, 7, 7), 8);
    }

    private static void sameOperandTwice() {
        sentence("Terms", "(also the same one twice)");
        GateWorkbench w = with(INPUT, INPUT);
        is("AND", w.add(AND, 0, 0, 0), 2);
        is("OR", w.add(OR, 0, 0, 0), 3);
        is("XOR", w.add(XOR, 0, 0, 0), 4);
        is("MUX, thrice", w.add(MUX, 0, 0, 0), 5);
        is("MUX, x and y", w.add(MUX, 0, 0, 1), 6);
        is("MUX, x and z", w.add(MUX, 0, 1, 0), 7);
        is("MUX, y and z", w.add(MUX, 0, 1, 1), 8);
        is("AND is it", w.same(2, 0), true);
        is("OR is it", w.same(3, 0), true);
        is("XOR is 0", w.count(4), 0);
        is("MUX is it", w.same(5, 0), true);
        is("x or z", w.count(6), 3);
        is("x and y", w.witness(7, 0), 3);
        is("x and y alone", w.count(7), 1);
        is("y", w.same(8, 1), true);
    }

    private static void orderOfSources() {
        sentence("Terms", "Inputs and registers are SOURCES, in the order of their numbers");
        GateWorkbench w = with(CONSTANT, REGISTER, NOT, INPUT, CONSTANT, REGISTER, INPUT);
        is("the first is net 1", w.witness(1, 0), 1);
        is("the next is net 3", w.witness(3, 0), 2);
        is("then net 5", w.witness(5, 0), 4);
        is("then net 6", w.witness(6, 0), 8);
        w.drop();
        w.drop();
        w.add(INPUT, 0, 0, 0);
        w.add(REGISTER, 0, 0, 0);
        is("an input where a register was", w.witness(5, 0), 4);
        is("a register where an input was", w.witness(6, 0), 8);
    }

    private static void tenSources() {
        sentence("Terms", "at most 10");
        GateWorkbench w = new GateWorkbench();
        for (int n = 0; n < 10; n++) {
            is("source", w.add(n % 2 == 0 ? INPUT : REGISTER, 0, 0, 0), n);
        }
        is("an 11th, an input", w.add(INPUT, 0, 0, 0), FULL);
        is("an 11th, the 6th register", w.add(REGISTER, 0, 0, 0), FULL);
        is("a net that is none", w.add(CONSTANT, 1, 0, 0), 10);
        is("all assignments of ten", w.count(10), 1024);
        is("the tenth", w.witness(9, 0), 512);
    }

    private static void sixOfThemRegisters() {
        sentence("Terms", "of them at most 6 registers");
        GateWorkbench w = with(INPUT);
        for (int n = 1; n < 7; n++) {
            is("register", w.add(REGISTER, 0, 0, 0), n);
        }
        is("a 7th", w.add(REGISTER, 0, 0, 0), FULL);
        is("an input after six registers", w.add(INPUT, 0, 0, 0), 7);
        is("a 7th still", w.add(REGISTER, 0, 0, 0), FULL);
        is("the 9th source", w.add(INPUT, 0, 0, 0), 8);
        is("the 10th source", w.add(INPUT, 0, 0, 0), 9);
    }

    private static void inputAtFirst() {
        sentence("Terms", "An input has a VALUE, at first 0.");
        GateWorkbench w = with(INPUT, INPUT);
        is("the first", w.value(0), 0);
        is("the last", w.value(1), 0);
        w.set(1, true);
        w.drop();
        w.add(INPUT, 1, 1, 1);
        is("a new one where one with 1 was", w.value(1), 0);
        w.drop();
        w.add(CONSTANT, 1, 0, 0);
        w.drop();
        w.add(INPUT, 1, 1, 1);
        is("a new one where a constant 1 was", w.value(1), 0);
    }

    private static void registerAtFirst() {
        sentence("Terms", "A register has a STATE, at first 0, which is its value, and a NEXT net, "
            + "any one that is there, at first itself.");
        GateWorkbench w = with(INPUT, REGISTER);
        w.set(0, true);
        is("state", w.tick(0), 0);
        is("value", w.value(1), 0);
        is("keeps 0", w.tick(1), 0);
        w.set(1, true);
        is("keeps 1", w.tick(1), 1);
        w.next(1, 0);
        w.drop();
        w.add(REGISTER, 0, 0, 0);
        is("a new one where one with 1 was", w.value(1), 0);
        is("a new one's NEXT is not the old one's", w.tick(1), 0);
        w.set(1, true);
        w.set(0, false);
        is("but itself", w.tick(1), 1);
    }

    private static void nextIsAnyOne() {
        sentence("Terms", "a NEXT net, any one that is there");
        GateWorkbench w = with(INPUT, CONSTANT, REGISTER, REGISTER, NOT);
        for (int n = 5; n < 32; n++) {
            w.add(NOT, n - 1, 0, 0);
        }
        for (int n = 0; n < 32; n++) {
            is("NEXT " + n, w.next(3, n), true);
            int value = w.value(n);
            is("then the value of " + n, w.tick(1), 2 * value);
        }
        is("32 is not there", w.next(3, 32), false);
    }

    private static void allAtOnce() {
        sentence("Terms", "every register's state becomes the value that its NEXT has, all at once");
        GateWorkbench w = with(REGISTER, REGISTER);
        w.next(0, 1);
        w.next(1, 0);
        w.set(0, true);
        is("two change places", w.tick(1), 2);
        is("and back", w.tick(1), 1);
        GateWorkbench up = sixRegisters();
        GateWorkbench down = sixRegisters();
        for (int n = 0; n < 6; n++) {
            up.next(n, (n + 5) % 6);
            down.next(n, (n + 1) % 6);
        }
        up.set(0, true);
        down.set(0, true);
        for (int t = 1; t < 13; t++) {
            is("a ring of six, up", up.tick(1), 1 << t % 6);
            is("a ring of six, down", down.tick(1), 1 << (12 - t) % 6);
        }
        GateWorkbench v = with(REGISTER, NOT, REGISTER);
        v.next(0, 1);
        v.next(2, 1);
        is("both from the state before", v.tick(1), 3);
        is("both again", v.tick(1), 0);
    }

    private static void inputsStay() {
        sentence("Terms", "inputs stay as they are");
        GateWorkbench w = mixed();
        w.tick(1);
        is("an input with 1", w.value(0), 1);
        is("an input with 0", w.value(3), 0);
        w.set(0, false);
        w.set(3, true);
        w.tick(MAX);
        is("the first is 0", w.value(0), 0);
        is("the other is 1", w.value(3), 1);
    }

    private static void numbersOfAssignments() {
        sentence("Terms", "its number is the sum of 2^i for the sources i (0 the first) that have 1");
        GateWorkbench none = with(CONSTANT, NOT);
        is("no sources: 0 is the only one", none.count(1), 1);
        is("no sources: it is 0", none.witness(1, 0), 0);
        is("no sources: there is no 1", none.witness(1, 1), REFUSED);
        GateWorkbench ten = tenInputs();
        ten.add(AND, 0, 1, 0);
        ten.add(OR, 0, 1, 0);
        for (int n = 2; n < 10; n++) {
            ten.add(AND, 2 * n + 6, n, 0);
            ten.add(OR, 2 * n + 7, n, 0);
        }
        ten.add(NOT, 27, 0, 0);
        is("ten sources: all have 1", ten.witness(26, 0), 1023);
        is("ten sources: none has", ten.witness(28, 0), 0);
        is("ten sources: none has but in 0", ten.witness(28, 1), REFUSED);
        for (int n = 0; n < 10; n++) {
            is("source " + n, ten.witness(n, 0), 1 << n);
        }
    }

    private static void widths() {
        sentence("Terms", "LEVELS, for a WIDTH k from 1 to 3");
        GateWorkbench w = with(INPUT, NOT);
        is("0", w.level(1, 0), REFUSED);
        is("1", w.level(1, 1), 1);
        is("2", w.level(1, 2), 1);
        is("3", w.level(1, 3), 1);
        is("4", w.level(1, 4), REFUSED);
    }

    private static void levelOfSourceOrConstant() {
        sentence("Terms", "a source or constant has level 0");
        GateWorkbench w = with(INPUT, REGISTER, CONSTANT, NOT, REGISTER);
        w.next(1, 3);
        w.change(3, CONSTANT, 1, 0, 0);
        for (int k = 1; k <= 3; k++) {
            for (int n = 0; n < 5; n++) {
                is("net " + n + ", width " + k, w.level(n, k), 0);
            }
        }
    }

    private static void leastLevelFromOne() {
        sentence("Terms", "Another net has the least level l from 1 on");
        GateWorkbench w = with(INPUT, NOT);
        w.add(NOT, 1, 0, 0);
        w.add(AND, 0, 2, 0);
        w.add(XOR, 3, 1, 0);
        is("just above an input", w.level(1, 1), 1);
        is("two above it are no more", w.level(2, 1), 1);
        is("nor are many", w.level(4, 1), 1);
        GateWorkbench v = tenInputs();
        v.add(AND, 0, 1, 0);
        for (int n = 11; n < 19; n++) {
            v.add(AND, n - 1, n - 9, 0);
        }
        for (int n = 10; n < 19; n++) {
            is("each one more, width 2", v.level(n, 2), n - 9);
            is("each two one more, width 3", v.level(n, 3), (n - 8) / 2);
        }
    }

    private static void setOfAtMostK() {
        sentence("Terms", "a SET of at most k nets");
        GateWorkbench w = with(INPUT, INPUT, INPUT, INPUT, NOT);
        w.add(AND, 0, 1, 0);
        w.add(MUX, 0, 1, 2);
        w.add(AND, 2, 3, 0);
        w.add(OR, 5, 7, 0);
        is("one for 1", w.level(4, 1), 1);
        is("one for 3", w.level(4, 3), 1);
        is("two for 1", w.level(5, 1), REFUSED);
        is("two for 2", w.level(5, 2), 1);
        is("two for 3", w.level(5, 3), 1);
        is("three for 2", w.level(6, 2), REFUSED);
        is("three for 3", w.level(6, 3), 1);
        is("four for 3", w.level(8, 3), 2);
    }

    private static void membersBelow() {
        sentence("Terms", "all of levels below l");
        GateWorkbench w = with(INPUT, INPUT, INPUT, INPUT);
        w.add(AND, 0, 1, 0);
        w.add(NOT, 4, 0, 0);
        w.add(AND, 2, 3, 0);
        w.add(OR, 4, 6, 0);
        w.add(MUX, 0, 1, 2);
        w.add(OR, 8, 3, 0);
        is("one that has no level is no member", w.level(5, 1), REFUSED);
        is("both of level 1 give 2", w.level(7, 2), 2);
        is("MUX has none for 2", w.level(8, 2), REFUSED);
        is("MUX and an input are no SET then", w.level(9, 2), REFUSED);
        is("for 3 they are", w.level(9, 3), 2);
        w.add(NOT, 3, 0, 0);
        is("one that has none beside it is no hindrance", w.level(10, 2), 1);
    }

    /** Here the nets with the greater numbers have the lower levels. */
    private static void membersBelowInAnyOrder() {
        sentence("Terms", "all of levels below l");
        GateWorkbench w = with(INPUT, INPUT, AND, INPUT, OR, INPUT, MUX, INPUT, INPUT, MUX);
        w.change(2, AND, 0, 1, 0);
        w.change(4, OR, 2, 3, 0);
        w.change(6, MUX, 3, 2, 5);
        w.change(9, MUX, 7, 6, 8);
        is("a gate and a later input, 2", w.level(4, 2), 2);
        is("a gate and a later input, 3", w.level(4, 3), 1);
        is("a gate and two later inputs, 3", w.level(6, 3), 2);
        is("and two more, 3", w.level(9, 3), 3);
        GateWorkbench v = with(INPUT, INPUT, INPUT, AND, INPUT, MUX);
        v.change(3, AND, 1, 2, 0);
        v.change(5, MUX, 0, 3, 4);
        is("a gate between two inputs, 3", v.level(5, 3), 2);
    }

    private static void memberOtherThanIt() {
        sentence("Terms", "has a member of the SET other than it");
        GateWorkbench w = with(INPUT, INPUT, AND, XOR);
        w.change(2, AND, 0, 1, 0);
        w.change(3, XOR, 2, 2, 0);
        is("AND itself does not count", w.level(2, 1), REFUSED);
        is("nor does what is made of it", w.level(3, 1), REFUSED);
        is("the source may be the member", w.level(2, 2), 1);
    }

    private static void emptySet() {
        sentence("Terms", "(the empty SET, if there are no chains)");
        GateWorkbench w = new GateWorkbench();
        w.add(CONSTANT, 0, 0, 0);
        w.add(CONSTANT, 1, 0, 0);
        w.add(NOT, 0, 0, 0);
        w.add(XOR, 1, 2, 0);
        w.add(MUX, 1, 2, 3);
        w.add(INPUT, 0, 0, 0);
        w.add(INPUT, 0, 0, 0);
        w.add(XOR, 5, 5, 0);
        w.add(AND, 7, 6, 0);
        w.add(AND, 4, 6, 0);
        for (int k = 1; k <= 3; k++) {
            is("NOT of a constant, width " + k, w.level(2, k), 1);
            is("XOR of such, width " + k, w.level(3, k), 1);
            is("MUX of three such, width " + k, w.level(4, k), 1);
            is("with one input, width " + k, w.level(9, k), 1);
        }
        is("a chain counts though the function is 0", w.level(8, 1), REFUSED);
        is("that takes two", w.level(8, 2), 1);
        GateWorkbench v = with(CONSTANT, NOT);
        v.add(OR, 0, 1, 0);
        is("no sources at all", v.level(2, 1), 1);
    }

    /** The x of a constant is a value; it must not pass for the net with that number. */
    private static void noChainsThroughConstants() {
        sentence("Terms", "(the empty SET, if there are no chains)");
        GateWorkbench w = with(INPUT, INPUT, INPUT, CONSTANT);
        w.add(CONSTANT, 1, 0, 0);
        w.add(AND, 3, 2, 0);
        w.add(AND, 4, 2, 0);
        w.add(MUX, 3, 4, 2);
        w.add(XOR, 3, 4, 0);
        for (int n = 5; n < 9; n++) {
            is("net " + n + " has chains from input 2 at most", w.level(n, 1), 1);
        }
        w.change(5, CONSTANT, 0, 1, 2);
        is("nor does one that was a gate lead on", w.level(5, 1), 0);
        w.change(6, OR, 5, 2, 0);
        is("nor what is made of it", w.level(6, 1), 1);
    }

    private static void noSuchLevel() {
        sentence("Terms", "It has none if there is no such l.");
        GateWorkbench w = with(INPUT, INPUT);
        for (int n = 2; n < 32; n++) {
            w.add(XOR, n - 1, n - 2, 0);
        }
        for (int n = 2; n < 32; n++) {
            is("net " + n + " for 1", w.level(n, 1), REFUSED);
            is("net " + n + " for 2", w.level(n, 2), 1);
        }
    }

    private static void numbersOfConfigurations() {
        sentence("Terms", "its number is the sum of 2^i for the registers i (0 the first of them) that have 1");
        GateWorkbench w = with(INPUT, REGISTER, CONSTANT, INPUT, REGISTER);
        w.set(0, true);
        w.set(3, true);
        is("inputs are no part of it", w.tick(0), 0);
        w.set(1, true);
        is("the first register", w.tick(0), 1);
        w.set(4, true);
        w.set(1, false);
        is("the second register", w.tick(0), 2);
        is("no registers: 0", with(INPUT, NOT).tick(0), 0);
        GateWorkbench six = sixRegisters();
        for (int n = 0; n < 6; n++) {
            six.set(n, true);
            is("up to " + n, six.tick(0), (2 << n) - 1);
        }
    }

    private static void canCome() {
        sentence("Terms", "with which t ticks lead to it from configuration 0");
        GateWorkbench w = with(REGISTER, REGISTER, INPUT, CONSTANT, NOT);
        w.change(3, CONSTANT, 1, 0, 0);
        w.next(0, 3);
        w.next(1, 2);
        w.set(1, true);
        is("0 is there before any tick", w.soonest(0), 0);
        is("3, that one tick of the input gives", w.soonest(3), 1);
        is("1, that one tick gives", w.soonest(1), 1);
        is("2 is only there now", w.soonest(2), REFUSED);
        is("three of four", w.configurations(), 3);
    }
}
