import java.util.function.ToLongFunction;

/** The boundaries that promises 15 to 22 name, a test for each sentence. */
public final class TickEdgesTest extends Edges {
    /** Numbers that are no configuration, however many registers there are. */
    private static final int[] NEVER_A_CONFIGURATION = {MIN, -64, -2, -1, 64, 65, 128, 1 << 30, MAX};

    public static void main(String[] args) {
        tickNone();
        tickOnAndOn();
        tickAroundTheTail();
        tickBelowZero();
        tickWithoutRegisters();
        cycleToTheFirst();
        cycleAfterHowManyMore();
        cycleWithInputsAsTheyAre();
        cycleAnotherWhat();
        configurationsAlwaysZero();
        configurationsAnyNumberOfTicks();
        soonestLeast();
        soonestCannot();
        alarmLeast();
        alarmNever();
        alarmNoNet();
        apartLeast();
        apartSameInputs();
        apartNone();
        apartNoNetOrConfiguration();
        classesFewestAndMost();
        classesOfAllConfigurations();
        classesNoNet();
        refusedBeforeFull();
        cycleChangesNoState();
        notAsTheyAreNow();
        end();
    }

    private static void tickNone() {
        sentence("Promise 15", "n ticks: the configuration then.");
        leavesAll("no ticks", w -> w.tick(0), 2);
        leavesAll("no ticks of 32 nets", Bench::full, w -> w.tick(0), 4);
        leavesAll("no ticks of a tail", Bench::turnWithTail, w -> w.tick(0), 32);
    }

    private static void tickOnAndOn() {
        sentence("Promise 15", "n ticks: the configuration then.");
        for (int n = 0; n < 200; n++) {
            is("round, " + n, roundCounter().tick(n), n % 64);
            is("to the hold, " + n, holdingCounter().tick(n), Math.min(n, 63));
        }
        for (int n : new int[] {1 << 30, (1 << 30) + 5, 1000000007, MAX - 64, MAX - 63, MAX - 1, MAX}) {
            is("round, " + n, roundCounter().tick(n), n % 64);
            is("to the hold, " + n, holdingCounter().tick(n), 63);
        }
        GateWorkbench w = roundCounter();
        is("MAX", w.tick(MAX), 63);
        is("twice MAX", w.tick(MAX), 62);
        is("and one", w.tick(1), 63);
        is("and one more", w.tick(1), 0);
    }

    private static void tickAroundTheTail() {
        sentence("Promise 15", "n ticks: the configuration then.");
        int[] due = {32, 17, 8, 5, 2, 1, 0, 1, 0, 1};
        for (int n = 0; n < due.length; n++) {
            GateWorkbench w = turnWithTail();
            is("at once, " + n, w.tick(n), due[n]);
            is("the state is that one", w.tick(0), due[n]);
            is("register 0", w.value(0), due[n] % 2);
        }
        GateWorkbench w = turnWithTail();
        for (int n = 1; n < due.length; n++) {
            is("one by one, " + n, w.tick(1), due[n]);
        }
        is("MAX from the start", turnWithTail().tick(MAX), 1);
        is("MAX - 1 from the start", turnWithTail().tick(MAX - 1), 0);
    }

    private static void tickBelowZero() {
        sentence("Promise 15", "REFUSED if n is below 0");
        for (int n : new int[] {-1, -2, -64, MIN + 1, MIN}) {
            leavesAll("n " + n, w -> w.tick(n), REFUSED);
            leavesAll("without registers, n " + n, Bench::tenInputs, w -> w.tick(n), REFUSED);
        }
    }

    private static void tickWithoutRegisters() {
        sentence("Promise 15", "the configuration then");
        GateWorkbench w = with(INPUT, NOT);
        w.set(0, true);
        is("0 ticks", w.tick(0), 0);
        is("one tick", w.tick(1), 0);
        is("MAX ticks", w.tick(MAX), 0);
        is("the input", w.value(0), 1);
    }

    private static void cycleToTheFirst() {
        sentence("Promise 16", "what 0: how many ticks it takes to the first configuration that comes again");
        is("the longest", holdingCounter().cycle(0), 63);
        is("none, in a round of 64", roundCounter().cycle(0), 0);
        is("none, without registers", tenInputs().cycle(0), 0);
        is("none, when each keeps", sixRegisters().cycle(0), 0);
        GateWorkbench w = turnWithTail();
        for (int left = 5; left >= 0; left--) {
            is("from now on", w.cycle(0), left);
            w.tick(1);
        }
        is("none any more", w.cycle(0), 0);
        GateWorkbench v = holdingCounter();
        v.tick(62);
        is("one", v.cycle(0), 1);
        v.tick(1);
        is("it stands", v.cycle(0), 0);
    }

    private static void cycleAfterHowManyMore() {
        sentence("Promise 16", "1: after how many more it does");
        is("the longest", roundCounter().cycle(1), 64);
        is("at once, after 63", holdingCounter().cycle(1), 1);
        is("at once, without registers", tenInputs().cycle(1), 1);
        is("at once, when each keeps", sixRegisters().cycle(1), 1);
        is("two, after a tail of five", turnWithTail().cycle(1), 2);
        GateWorkbench v = roundCounter();
        v.tick(63);
        is("from the last on", v.cycle(1), 64);
        is("no tail from the last on", v.cycle(0), 0);
    }

    private static void cycleWithInputsAsTheyAre() {
        sentence("Promise 16", "With the inputs as they are, from now on");
        GateWorkbench w = counter();
        is("0: it stands", w.cycle(1), 1);
        w.set(0, true);
        is("1: it counts", w.cycle(1), 8);
        w.set(3, true);
        is("from 4 on", w.cycle(1), 8);
        w.set(0, false);
        is("0: it stands there", w.cycle(1), 1);
        is("0: no tail", w.cycle(0), 0);
    }

    private static void cycleAnotherWhat() {
        sentence("Promise 16", "REFUSED for another what");
        for (int what : new int[] {MIN, -2, -1, 2, 3, 256, 257, MAX}) {
            leavesAll("what " + what, w -> w.cycle(what), REFUSED);
            is("without nets, what " + what, new GateWorkbench().cycle(what), REFUSED);
        }
    }

    private static void configurationsAlwaysZero() {
        sentence("Promise 17", "(0 ticks too, so configuration 0 always is one)");
        is("no registers", tenInputs().configurations(), 1);
        is("each keeps", sixRegisters().configurations(), 1);
        GateWorkbench w = with(REGISTER, CONSTANT);
        w.change(1, CONSTANT, 1, 0, 0);
        w.next(0, 1);
        is("0 never comes back", w.configurations(), 2);
        w.tick(1);
        is("0 is not now", w.configurations(), 2);
        GateWorkbench v = sixRegisters();
        v.add(CONSTANT, 1, 0, 0);
        for (int n = 0; n < 6; n++) {
            v.next(n, 6);
        }
        is("0 and 63", v.configurations(), 2);
        v.next(5, 5);
        v.set(5, true);
        is("0 and 31, whatever is now", v.configurations(), 2);
    }

    private static void configurationsAnyNumberOfTicks() {
        sentence("Promise 17", "How many configurations can come, after any number of ticks");
        is("64, the last after 63", holdingCounter().configurations(), 64);
        is("64, round", roundCounter().configurations(), 64);
        is("two, the tail cannot come", turnWithTail().configurations(), 2);
        GateWorkbench w = with(0, 0, 0, 0, 1, 1, 1, 1, 1, 1);
        for (int n = 4; n < 10; n++) {
            w.next(n, (n - 4) % 4);
        }
        is("16, by four inputs in one tick", w.configurations(), 16);
        w.next(8, 4);
        w.next(9, 5);
        is("64, by other inputs for the second tick", w.configurations(), 64);
    }

    private static void soonestLeast() {
        sentence("Promise 18", "The least number of ticks after which a configuration can come");
        GateWorkbench held = holdingCounter();
        GateWorkbench round = roundCounter();
        for (int c = 0; c < 64; c++) {
            is("held " + c, held.soonest(c), c);
            is("round " + c, round.soonest(c), c);
        }
        is("no registers", tenInputs().soonest(0), 0);
        GateWorkbench w = with(INPUT, REGISTER, REGISTER, NOT, AND);
        w.change(4, AND, 1, 3, 0);
        w.next(1, 0);
        w.next(2, 4);
        is("0, though it comes again later", w.soonest(0), 0);
        is("1", w.soonest(1), 1);
        is("2, by 1 and then 0", w.soonest(2), 2);
    }

    private static void soonestCannot() {
        sentence("Promise 18", "REFUSED if it can't");
        GateWorkbench held = holdingCounter();
        GateWorkbench none = tenInputs();
        GateWorkbench three = counter();
        for (int c : NEVER_A_CONFIGURATION) {
            is("of 64: " + c, held.soonest(c), REFUSED);
            is("of one: " + c, none.soonest(c), REFUSED);
            is("of eight: " + c, three.soonest(c), REFUSED);
        }
        is("of one: 1", none.soonest(1), REFUSED);
        is("of eight: 8", three.soonest(8), REFUSED);
        is("of eight: 63", three.soonest(63), REFUSED);
        GateWorkbench keep = sixRegisters();
        keep.set(0, true);
        is("now, but not from 0", keep.soonest(1), REFUSED);
        is("63", keep.soonest(63), REFUSED);
        GateWorkbench w = with(INPUT, REGISTER, REGISTER, NOT, AND);
        w.change(4, AND, 1, 3, 0);
        w.next(1, 0);
        w.next(2, 4);
        is("it would take two values at once", w.soonest(3), REFUSED);
        GateWorkbench dropped = with(INPUT, REGISTER, REGISTER);
        dropped.next(1, 0);
        is("a register's", dropped.soonest(1), 1);
        dropped.next(2, 0);
        is("both registers'", dropped.soonest(3), 1);
        dropped.drop();
        is("a dropped register's", dropped.soonest(3), REFUSED);
    }

    private static void alarmLeast() {
        sentence("Promise 19", "The least number of ticks after which a configuration can come with which, "
            + "and some values of the inputs, a net is 1");
        is("after 63", holdingCounter().alarm(16), 63);
        is("after 32", roundCounter().alarm(5), 32);
        is("before any tick", roundCounter().alarm(6), 0);
        GateWorkbench w = counter();
        w.add(CONSTANT, 1, 0, 0);
        w.add(NOT, 0, 0, 0);
        w.add(AND, 10, 3, 0);
        w.set(0, true);
        is("a constant 1", w.alarm(9), 0);
        is("an input with 1", w.alarm(0), 0);
        is("an input with 0", w.alarm(10), 0);
        is("the last register", w.alarm(3), 4);
        is("its NEXT, by the input", w.alarm(8), 3);
        is("other values of the inputs at the end", w.alarm(11), 4);
        GateWorkbench v = with(INPUT, NOT);
        is("no registers, an input", v.alarm(0), 0);
        is("no registers, its NOT", v.alarm(1), 0);
    }

    private static void alarmNever() {
        sentence("Promise 19", "REFUSED if there is none");
        is("a constant 0", with(CONSTANT, REGISTER).alarm(0), REFUSED);
        is("a register that keeps", with(CONSTANT, REGISTER).alarm(1), REFUSED);
        GateWorkbench w = turnWithTail();
        is("only from where it is now", w.alarm(5), REFUSED);
        is("only after some ticks from now", w.alarm(1), REFUSED);
        GateWorkbench v = with(INPUT, NOT, AND);
        v.change(2, AND, 0, 1, 0);
        is("with no values of the inputs", v.alarm(2), REFUSED);
    }

    private static void alarmNoNet() {
        sentence("Promise 19", "or no such net");
        GateWorkbench w = mixed();
        for (int net : NEVER_A_NET) {
            is("net " + net, w.alarm(net), REFUSED);
            is("with 32, net " + net, full().alarm(net), REFUSED);
        }
        is("net 10", w.alarm(10), REFUSED);
        w.next(1, 1);
        w.drop();
        is("dropped", w.alarm(9), REFUSED);
    }

    private static void apartLeast() {
        sentence("Promise 20", "The least t such that t ticks from configuration c and as many from d");
        GateWorkbench held = holdingCounter();
        for (int c = 0; c < 63; c++) {
            is("held, " + c + " and 63", held.apart(16, c, 63), 0);
            is("held, 63 and " + c, held.apart(16, 63, c), 0);
            is("held, 0 and " + (c + 1), held.apart(16, 0, c + 1), 62 - c);
            is("held, " + (c + 1) + " and 0", held.apart(16, c + 1, 0), 62 - c);
        }
        GateWorkbench round = roundCounter();
        is("round, the longest", round.apart(16, 0, 1), 62);
        is("round, one tick before", round.apart(16, 0, 62), 1);
        is("round, at once", round.apart(16, 0, 63), 0);
        GateWorkbench tail = turnWithTail();
        is("down four", tail.apart(1, 0, 32), 4);
        is("the nearest counts", tail.apart(1, 0, 36), 1);
    }

    private static void apartSameInputs() {
        sentence("Promise 20", "both with the same values of the inputs, perhaps others for each tick");
        GateWorkbench w = with(INPUT, REGISTER, REGISTER, REGISTER, NOT);
        w.add(AND, 0, 2, 0);
        w.add(AND, 4, 3, 0);
        w.next(1, 5);
        w.next(2, 6);
        is("0 and then 1", w.apart(1, 0, 4), 2);
        is("1 alone", w.apart(1, 0, 2), 1);
        is("none", w.apart(1, 0, 1), 0);
        is("an input is the same for both", w.apart(0, 0, 7), REFUSED);
        is("with the input 1 at the end", w.apart(5, 0, 2), 0);
        is("with the input 0, then with 1 at the end", w.apart(5, 0, 4), 1);
        w.set(0, true);
        is("whatever the input has", w.apart(1, 0, 4), 2);
    }

    private static void apartNone() {
        sentence("Promise 20", "REFUSED if there is none");
        GateWorkbench held = holdingCounter();
        for (int c = 0; c < 64; c++) {
            is("with itself, " + c, held.apart(16, c, c), REFUSED);
        }
        GateWorkbench w = with(REGISTER, REGISTER, CONSTANT);
        is("one that is not seen", w.apart(0, 0, 2), REFUSED);
        is("one that is", w.apart(0, 0, 1), 0);
        is("a constant", w.apart(2, 0, 3), REFUSED);
        w.next(1, 2);
        is("lost with the tick", w.apart(0, 1, 3), REFUSED);
        is("no registers", tenInputs().apart(0, 0, 0), REFUSED);
    }

    private static void apartNoNetOrConfiguration() {
        sentence("Promise 20", "or no such net or configuration");
        GateWorkbench w = mixed();
        for (int net : NEVER_A_NET) {
            is("net " + net, w.apart(net, 0, 1), REFUSED);
        }
        is("net 10", w.apart(10, 0, 1), REFUSED);
        is("c 4", w.apart(4, 4, 0), REFUSED);
        is("d 4", w.apart(4, 0, 4), REFUSED);
        is("c 3 and d 0", w.apart(4, 3, 0), 0);
        GateWorkbench held = holdingCounter();
        for (int c : NEVER_A_CONFIGURATION) {
            is("c " + c, held.apart(5, c, 0), REFUSED);
            is("d " + c, held.apart(5, 0, c), REFUSED);
            is("both " + c, held.apart(5, c, c), REFUSED);
        }
        is("c 63", held.apart(5, 63, 0), 0);
        is("d 63", held.apart(5, 0, 63), 0);
        is("no registers, c 1", tenInputs().apart(0, 1, 0), REFUSED);
        is("no registers, d 1", tenInputs().apart(0, 0, 1), REFUSED);
    }

    private static void classesFewestAndMost() {
        sentence("Promise 21", "Into how many classes all configurations fall, "
            + "two being in one if they are nowhere apart for a net");
        is("64, after 62 ticks", holdingCounter().classes(16), 64);
        is("64, round", roundCounter().classes(16), 64);
        is("no registers", tenInputs().classes(0), 1);
        is("one, of a constant", with(CONSTANT, REGISTER, REGISTER).classes(0), 1);
        GateWorkbench w = counter();
        is("one, of the input", w.classes(0), 1);
        is("two, of the first register", w.classes(1), 2);
        is("four, of the second", w.classes(2), 4);
        is("eight, of the third", w.classes(3), 8);
        GateWorkbench v = with(REGISTER, REGISTER, AND, OR);
        v.change(2, AND, 0, 1, 0);
        v.change(3, OR, 0, 1, 0);
        v.next(0, 2);
        v.next(1, 3);
        is("three, 0 and 2 being in one", v.classes(0), 3);
        is("three, 2 and 3 being in one", v.classes(1), 3);
    }

    private static void classesOfAllConfigurations() {
        sentence("Promise 21", "all configurations");
        is("also such as cannot come", sixRegisters().classes(5), 2);
        GateWorkbench tail = turnWithTail();
        is("the tail that cannot come: 32", tail.classes(1), 32);
        is("register 0 alone", tail.classes(0), 2);
        is("register 5 alone", tail.classes(5), 2);
        is("register 4 and the one above", tail.classes(4), 4);
    }

    private static void classesNoNet() {
        sentence("Promise 21", "REFUSED if there is none");
        GateWorkbench w = mixed();
        for (int net : NEVER_A_NET) {
            is("net " + net, w.classes(net), REFUSED);
            is("with 32, net " + net, full().classes(net), REFUSED);
        }
        is("net 10", w.classes(10), REFUSED);
        w.next(1, 1);
        w.drop();
        is("dropped", w.classes(9), REFUSED);
    }

    private static void refusedBeforeFull() {
        sentence("Promise 22", "add: REFUSED is tested before FULL.");
        GateWorkbench w = full();
        is("kind -1", w.add(-1, 0, 0, 0), REFUSED);
        is("kind 8", w.add(8, 0, 0, 0), REFUSED);
        is("constant 2", w.add(CONSTANT, 2, 0, 0), REFUSED);
        is("constant -1", w.add(CONSTANT, -1, 0, 0), REFUSED);
        for (int kind = NOT; kind <= MUX; kind++) {
            is("x 32, kind " + kind, w.add(kind, 32, 0, 0), REFUSED);
            is("x -1, kind " + kind, w.add(kind, -1, 0, 0), REFUSED);
            is("FULL, kind " + kind, w.add(kind, 31, 31, 31), FULL);
        }
        is("y 32", w.add(XOR, 0, 32, 0), REFUSED);
        is("z 32", w.add(MUX, 0, 0, 32), REFUSED);
        is("an input's operands are not looked at", w.add(INPUT, -1, -1, -1), FULL);
        is("a register's neither", w.add(REGISTER, 32, 32, 32), FULL);
        is("a constant's neither", w.add(CONSTANT, 1, -1, 32), FULL);
        GateWorkbench ten = tenInputs();
        is("ten sources, kind 8", ten.add(8, 0, 0, 0), REFUSED);
        is("ten sources, kind -1", ten.add(-1, 0, 0, 0), REFUSED);
        is("ten sources, an input", ten.add(INPUT, -1, 99, 99), FULL);
        is("six registers, a register", sixRegisters().add(REGISTER, -1, 99, 99), FULL);
    }

    private static void cycleChangesNoState() {
        sentence("Promise 22", "cycle changes no state");
        leavesAll("what 0 of a tail", Bench::turnWithTail, w -> w.cycle(0), 5);
        leavesAll("what 1 of a tail", Bench::turnWithTail, w -> w.cycle(1), 2);
        leavesAll("what 0 of 63", Bench::holdingCounter, w -> w.cycle(0), 63);
        leavesAll("what 1 of 64", Bench::roundCounter, w -> w.cycle(1), 64);
    }

    private static void notAsTheyAreNow() {
        sentence("Promise 22", "configurations, soonest, alarm, apart and classes do not depend on "
            + "the states and values as they are now");
        sameInAllStates("configurations", w -> w.configurations(), 8);
        sameInAllStates("soonest", w -> w.soonest(5), 5);
        sameInAllStates("soonest, 0", w -> w.soonest(0), 0);
        sameInAllStates("alarm", w -> w.alarm(3), 4);
        sameInAllStates("alarm of the input", w -> w.alarm(0), 0);
        sameInAllStates("apart", w -> w.apart(3, 0, 1), 3);
        sameInAllStates("apart by the input", w -> w.apart(8, 0, 3), 0);
        sameInAllStates("classes", w -> w.classes(2), 4);
    }

    private static void sameInAllStates(String text, ToLongFunction<GateWorkbench> call, long want) {
        for (int a = 0; a < 16; a++) {
            GateWorkbench w = counter();
            for (int source = 0; source < 4; source++) {
                w.set(source, (a >> source & 1) == 1);
            }
            is(text + " with assignment " + a, call.applyAsLong(w), want);
            is(text + " leaves the states", w.tick(0), a >> 1);
            is(text + " leaves the input", w.value(0), a & 1);
        }
    }
}
