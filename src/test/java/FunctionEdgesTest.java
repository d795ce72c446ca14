/** The boundaries that promises 8 to 14 name, a test for each sentence. */
public final class FunctionEdgesTest extends Edges {
    public static void main(String[] args) {
        countNoneAndAll();
        countRefused();
        witnessNotBelowFrom();
        witnessFromOutside();
        witnessNone();
        witnessRefused();
        sameFunction();
        sameNoNet();
        dependsOnOnePair();
        dependsNone();
        testsNoneAndAll();
        testsWhateverLeads();
        testsRefused();
        primesSomeOfTheSources();
        primesNotPartOfGreater();
        primesRefused();
        primesFull();
        primesFullByFunction();
        levelNone();
        levelNoNet();
        levelWidthOutside();
        end();
    }

    /** Ten inputs, and in net 18 the AND of all, in net 27 the OR of all. */
    private static GateWorkbench tenJoined() {
        GateWorkbench w = tenInputs();
        w.add(AND, 0, 1, 0);
        for (int n = 2; n < 10; n++) {
            w.add(AND, 8 + n, n, 0);
        }
        w.add(OR, 0, 1, 0);
        for (int n = 2; n < 10; n++) {
            w.add(OR, 17 + n, n, 0);
        }
        w.add(CONSTANT, 0, 0, 0);
        w.add(CONSTANT, 1, 0, 0);
        return w;
    }

    private static void countNoneAndAll() {
        sentence("Promise 8", "With how many assignments a net is 1");
        GateWorkbench w = tenJoined();
        is("none of 1024", w.count(28), 0);
        is("all of 1024", w.count(29), 1024);
        is("one of 1024", w.count(18), 1);
        is("all but one of 1024", w.count(27), 1023);
        is("the first source", w.count(0), 512);
        is("the last source", w.count(9), 512);
        GateWorkbench v = with(CONSTANT, NOT);
        is("none of one", v.count(0), 0);
        is("all of one", v.count(1), 1);
        v.add(REGISTER, 0, 0, 0);
        is("all of two", v.count(1), 2);
        v.drop();
        is("all of one again", v.count(1), 1);
    }

    private static void countRefused() {
        sentence("Promise 8", "REFUSED likewise");
        GateWorkbench w = mixed();
        for (int net : NEVER_A_NET) {
            is("net " + net, w.count(net), REFUSED);
            is("with 32, net " + net, full().count(net), REFUSED);
        }
        is("net 10", w.count(10), REFUSED);
        w.next(1, 1);
        w.drop();
        is("dropped", w.count(9), REFUSED);
    }

    private static void witnessNotBelowFrom() {
        sentence("Promise 9", "The least number, not below from, of an assignment with which a net is 1");
        GateWorkbench w = with(INPUT, INPUT, INPUT, XOR);
        w.change(3, XOR, 0, 2, 0);
        int[] due = {1, 1, 3, 3, 4, 6, 6, REFUSED, REFUSED, REFUSED};
        for (int from = 0; from < 10; from++) {
            is("from " + from, w.witness(3, from), due[from]);
        }
        GateWorkbench ten = tenJoined();
        is("the last", ten.witness(18, 0), 1023);
        is("from the last", ten.witness(18, 1023), 1023);
        is("the first of all", ten.witness(29, 0), 0);
        is("the last of all", ten.witness(29, 1023), 1023);
        is("the first of the OR", ten.witness(27, 0), 1);
    }

    private static void witnessFromOutside() {
        sentence("Promise 9", "not below from");
        GateWorkbench ten = tenJoined();
        for (int from : new int[] {MIN, MIN + 1, -1024, -1, 0}) {
            is("all ones, from " + from, ten.witness(29, from), 0);
            is("OR, from " + from, ten.witness(27, from), 1);
        }
        for (int from : new int[] {1024, 1025, 2047, 2048, 1 << 30, MAX - 1, MAX}) {
            is("all ones, from " + from, ten.witness(29, from), REFUSED);
            is("AND, from " + from, ten.witness(18, from), REFUSED);
        }
        GateWorkbench none = with(CONSTANT, NOT);
        is("no sources, from -1", none.witness(1, -1), 0);
        is("no sources, from 0", none.witness(1, 0), 0);
        is("no sources, from 1", none.witness(1, 1), REFUSED);
        is("no sources, from MAX", none.witness(1, MAX), REFUSED);
    }

    private static void witnessNone() {
        sentence("Promise 9", "or if there is none");
        GateWorkbench ten = tenJoined();
        is("never 1", ten.witness(28, 0), REFUSED);
        is("never 1, from MIN", ten.witness(28, MIN), REFUSED);
        ten.add(NOT, 27, 0, 0);
        is("only in 0", ten.witness(30, 0), 0);
        is("no more from 1 on", ten.witness(30, 1), REFUSED);
        is("a source with 1 in all from 512 on", ten.witness(9, 513), 513);
        is("not in 512 to 767", ten.witness(8, 512), 768);
    }

    private static void witnessRefused() {
        sentence("Promise 9", "REFUSED likewise");
        GateWorkbench w = mixed();
        for (int net : NEVER_A_NET) {
            is("net " + net, w.witness(net, 0), REFUSED);
            is("with 32, net " + net, full().witness(net, MIN), REFUSED);
        }
        is("net 10", w.witness(10, 0), REFUSED);
        w.next(1, 1);
        w.drop();
        is("dropped", w.witness(9, 0), REFUSED);
    }

    private static void sameFunction() {
        sentence("Promise 10", "Whether two nets have the same function");
        GateWorkbench w = tenJoined();
        is("the AND of all differs from 0 in the last assignment alone", w.same(18, 28), false);
        is("the OR of all differs from 1 in the first assignment alone", w.same(27, 29), false);
        is("0 and 1", w.same(28, 29), false);
        is("the first and the last source", w.same(0, 9), false);
        is("with itself", w.same(27, 27), true);
        GateWorkbench v = with(CONSTANT, CONSTANT, NOT);
        is("no sources, alike", v.same(0, 1), true);
        is("no sources, different", v.same(1, 2), false);
    }

    private static void sameNoNet() {
        sentence("Promise 10", "false if one is no net");
        GateWorkbench w = mixed();
        for (int net : NEVER_A_NET) {
            is("a " + net, w.same(net, 0), false);
            is("b " + net, w.same(0, net), false);
            is("both " + net, w.same(net, net), false);
        }
        is("a 10", w.same(10, 2), false);
        is("b 10", w.same(2, 10), false);
        is("both 10", w.same(10, 10), false);
        w.next(1, 1);
        w.drop();
        is("dropped", w.same(9, 9), false);
        // A place without a net must not pass for a constant 0.
        GateWorkbench v = with(CONSTANT);
        is("a constant 0 and none", v.same(0, 1), false);
    }

    private static void dependsOnOnePair() {
        sentence("Promise 11", "Whether there are two assignments that differ in the value of a source alone, "
            + "with which a net has different values");
        GateWorkbench w = tenJoined();
        for (int source = 0; source < 10; source++) {
            is("AND of all, source " + source, w.depends(18, source), true);
            is("OR of all, source " + source, w.depends(27, source), true);
            is("a constant, source " + source, w.depends(29, source), false);
            is("the last source, source " + source, w.depends(9, source), source == 9);
        }
        w.add(XOR, 3, 3, 0);
        w.add(OR, 30, 4, 0);
        is("a chain from 3 changes nothing", w.depends(31, 3), false);
        is("but 4 does", w.depends(31, 4), true);
    }

    private static void dependsNone() {
        sentence("Promise 11", "false if one is none");
        GateWorkbench w = mixed();
        for (int net : NEVER_A_NET) {
            is("net " + net, w.depends(net, 0), false);
            is("source " + net, w.depends(9, net), false);
            is("both " + net, w.depends(net, net), false);
        }
        is("net 10", w.depends(10, 0), false);
        is("source 10", w.depends(9, 10), false);
        is("on a constant", w.depends(9, 2), false);
        for (int gate = 5; gate < 10; gate++) {
            is("on gate " + gate, w.depends(9, gate), false);
            is("on itself, a gate", w.depends(gate, gate), false);
        }
        is("on a register", w.depends(9, 1), true);
        is("on an input", w.depends(9, 3), true);
        is("a source on itself", w.depends(4, 4), true);
        is("a source on another", w.depends(4, 3), false);
        GateWorkbench v = with(INPUT, INPUT);
        v.drop();
        is("a source that was dropped", v.depends(0, 1), false);
    }

    private static void testsNoneAndAll() {
        sentence("Promise 12", "with how many assignments would out have another value than it has?");
        GateWorkbench w = tenJoined();
        is("0 were 1, seen at itself: all", w.tests(28, true, 28), 1024);
        is("0 were 0: none", w.tests(28, false, 28), 0);
        is("1 were 0: all", w.tests(29, false, 29), 1024);
        is("1 were 1: none", w.tests(29, true, 29), 0);
        is("AND of all were 0: one", w.tests(18, false, 18), 1);
        is("AND of all were 1: the others", w.tests(18, true, 18), 1023);
        is("a source were 0", w.tests(9, false, 9), 512);
        is("a source were 1, at the AND of all", w.tests(9, true, 18), 1);
        is("a source were 1, at the OR of all", w.tests(9, true, 27), 1);
        is("a source were 0, at the OR of all", w.tests(0, false, 27), 1);
        is("what is above does not lead to out", w.tests(18, true, 17), 0);
        is("nor what is beside it", w.tests(19, true, 18), 0);
        GateWorkbench v = with(CONSTANT, NOT);
        is("no sources: the one assignment", v.tests(0, true, 1), 1);
        is("no sources: not that one", v.tests(0, false, 1), 0);
    }

    private static void testsWhateverLeads() {
        sentence("Promise 12", "If the value of a net were 1 (or 0) whatever leads to it");
        GateWorkbench w = with(INPUT, REGISTER, AND, NOT, OR);
        w.change(2, AND, 0, 1, 0);
        w.change(3, NOT, 2, 0, 0);
        w.change(4, OR, 2, 3, 0);
        is("at NOT", w.tests(2, true, 3), 3);
        is("both branches hide it", w.tests(2, true, 4), 0);
        is("one branch alone shows it", w.tests(3, false, 4), 3);
        is("what leads to it stays", w.tests(4, false, 2), 0);
        is("a register", w.tests(1, true, 2), 1);
        w.next(1, 4);
        w.set(0, true);
        is("a NEXT leads nowhere now", w.tests(4, false, 1), 0);
        is("the value is as before", w.value(0), 1);
        is("the state is as before", w.tick(0), 0);
    }

    private static void testsRefused() {
        sentence("Promise 12", "REFUSED if one is no net");
        GateWorkbench w = mixed();
        for (int net : NEVER_A_NET) {
            is("net " + net, w.tests(net, true, 9), REFUSED);
            is("out " + net, w.tests(9, true, net), REFUSED);
            is("both " + net, w.tests(net, false, net), REFUSED);
        }
        is("net 10", w.tests(10, false, 9), REFUSED);
        is("out 10", w.tests(9, false, 10), REFUSED);
        w.next(1, 1);
        w.drop();
        is("dropped", w.tests(9, true, 9), REFUSED);
    }

    private static void primesSomeOfTheSources() {
        sentence("Promise 13", "CUBES are the sets of all assignments that give some of the sources a value each, "
            + "the others any.");
        GateWorkbench w = tenJoined();
        is("1: the cube that gives none a value", w.primes(29), 1);
        is("0: no cube", w.primes(28), 0);
        is("a source", w.primes(9), 1);
        GateWorkbench none = with(CONSTANT, NOT);
        is("no sources, 0", none.primes(0), 0);
        is("no sources, 1", none.primes(1), 1);
        GateWorkbench six = sixRegisters();
        six.add(AND, 0, 1, 0);
        six.add(OR, 0, 1, 0);
        six.add(XOR, 0, 1, 0);
        for (int n = 2; n < 6; n++) {
            six.add(AND, 3 * n, n, 0);
            six.add(OR, 3 * n + 1, n, 0);
            six.add(XOR, 3 * n + 2, n, 0);
        }
        is("AND of six: one that gives all a value", six.primes(18), 1);
        is("OR of six", six.primes(19), 6);
        is("XOR of six: each assignment its own", six.primes(20), 32);
    }

    private static void primesNotPartOfGreater() {
        sentence("Promise 13", "and that are not part of a greater such cube");
        GateWorkbench w = with(INPUT, INPUT, INPUT, MUX, AND, OR, NOT, OR);
        w.change(3, MUX, 0, 1, 2);
        w.change(4, AND, 0, 1, 0);
        w.change(5, OR, 4, 0, 0);
        w.change(6, NOT, 0, 0, 0);
        w.change(7, OR, 6, 4, 0);
        is("MUX has three", w.primes(3), 3);
        is("x y is part of x", w.primes(5), 1);
        is("not x, and y", w.primes(7), 2);
        w.add(XOR, 0, 1, 0);
        w.add(XOR, 1, 2, 0);
        w.add(OR, 8, 9, 0);
        is("not all alike: six, three of them not needed", w.primes(10), 6);
    }

    private static void primesRefused() {
        sentence("Promise 13", "REFUSED if it is no net");
        GateWorkbench w = mixed();
        for (int net : NEVER_A_NET) {
            is("net " + net, w.primes(net), REFUSED);
            is("with 32, net " + net, full().primes(net), REFUSED);
        }
        is("net 10", w.primes(10), REFUSED);
        w.next(1, 1);
        w.drop();
        is("dropped", w.primes(9), REFUSED);
    }

    private static void primesFull() {
        sentence("Promise 13", "FULL if it depends on more than 6 sources");
        GateWorkbench up = tenJoined();
        for (int many = 2; many <= 10; many++) {
            is("AND of the first " + many, up.primes(8 + many), many <= 6 ? 1 : FULL);
            is("OR of the first " + many, up.primes(17 + many), many <= 6 ? many : FULL);
        }
        GateWorkbench down = tenInputs();
        down.add(XOR, 9, 8, 0);
        for (int n = 11; n < 19; n++) {
            down.add(XOR, n - 1, 18 - n, 0);
        }
        for (int many = 2; many <= 10; many++) {
            is("XOR of the last " + many, down.primes(8 + many), many <= 6 ? 1 << (many - 1) : FULL);
        }
    }

    private static void primesFullByFunction() {
        sentence("Promise 13", "it depends on more than 6 sources");
        GateWorkbench w = tenInputs();
        w.add(XOR, 0, 1, 0);
        for (int n = 11; n < 19; n++) {
            w.add(XOR, n - 1, n - 9, 0);
        }
        w.add(XOR, 18, 12, 0);
        is("ten less four are six", w.primes(19), 32);
        w.add(XOR, 18, 11, 0);
        is("ten less three are seven", w.primes(20), FULL);
        w.add(XOR, 18, 18, 0);
        is("chains from ten, but 0", w.primes(21), 0);
        w.add(NOT, 21, 0, 0);
        is("chains from ten, but 1", w.primes(22), 1);
        w.add(AND, 22, 9, 0);
        is("chains from ten, but the last source", w.primes(23), 1);
    }

    private static void levelNone() {
        sentence("Promise 14", "REFUSED if it has none");
        GateWorkbench w = tenJoined();
        for (int n = 10; n < 28; n++) {
            is("width 1, net " + n, w.level(n, 1), REFUSED);
            is("width 2, net " + n, w.level(n, 2) == REFUSED, false);
        }
        w.add(MUX, 0, 1, 2);
        is("MUX, width 1", w.level(30, 1), REFUSED);
        is("MUX, width 2", w.level(30, 2), REFUSED);
        is("MUX, width 3", w.level(30, 3), 1);
    }

    private static void levelNoNet() {
        sentence("Promise 14", "is no net");
        GateWorkbench w = mixed();
        for (int net : NEVER_A_NET) {
            for (int k = 1; k <= 3; k++) {
                is("net " + net + ", width " + k, w.level(net, k), REFUSED);
            }
        }
        is("net 10", w.level(10, 3), REFUSED);
        GateWorkbench v = full();
        is("32 of 32", v.level(32, 3), REFUSED);
        v.change(31, NOT, 9, 0, 0);
        is("31 of 32", v.level(31, 3), 1);
        w.next(1, 1);
        w.drop();
        is("dropped", w.level(9, 3), REFUSED);
    }

    private static void levelWidthOutside() {
        sentence("Promise 14", "or k is not 1 .. 3");
        GateWorkbench w = mixed();
        for (int k : new int[] {MIN, -3, -1, 0, 4, 5, 32, 257, MAX}) {
            for (int net = 0; net < 10; net++) {
                is("net " + net + ", width " + k, w.level(net, k), REFUSED);
            }
        }
        is("an input, 1", w.level(0, 1), 0);
        is("a NOT, 1", w.level(5, 1), 1);
        is("an AND, 2", w.level(6, 2), 1);
        is("an XOR, 3", w.level(7, 3), 1);
    }
}
