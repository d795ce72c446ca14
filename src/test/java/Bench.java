/** The kinds of the document, and circuits that several tests use. */
class Bench {
    static final int INPUT = 0, REGISTER = 1, CONSTANT = 2, NOT = 3;
    static final int AND = 4, OR = 5, XOR = 6, MUX = 7;
    static final int REFUSED = GateWorkbench.REFUSED, FULL = GateWorkbench.FULL;
    static final int MIN = Integer.MIN_VALUE, MAX = Integer.MAX_VALUE;

    static GateWorkbench with(int... kinds) {
        GateWorkbench w = new GateWorkbench();
        for (int kind : kinds) {
            w.add(kind, 0, 0, 0);
        }
        return w;
    }

    static GateWorkbench tenInputs() {
        return with(0, 0, 0, 0, 0, 0, 0, 0, 0, 0);
    }

    static GateWorkbench sixRegisters() {
        return with(1, 1, 1, 1, 1, 1);
    }

    /** Every kind once or twice, sources and others by turns; the last net, 9, is a NEXT. */
    static GateWorkbench mixed() {
        GateWorkbench w = with(INPUT, REGISTER);
        w.add(CONSTANT, 1, 0, 0);
        w.add(INPUT, 0, 0, 0);
        w.add(REGISTER, 0, 0, 0);
        w.add(NOT, 1, 0, 0);
        w.add(AND, 0, 5, 0);
        w.add(XOR, 6, 4, 0);
        w.add(OR, 7, 3, 0);
        w.add(MUX, 0, 8, 5);
        w.next(1, 9);
        w.next(4, 7);
        w.set(0, true);
        w.set(4, true);
        return w;
    }

    /** 32 nets: registers 0 .. 5, inputs 6 .. 9, and a row of XORs of all of them, 10 .. 31. */
    static GateWorkbench full() {
        GateWorkbench w = with(1, 1, 1, 1, 1, 1, 0, 0, 0, 0);
        w.add(XOR, 0, 1, 0);
        for (int n = 11; n < 32; n++) {
            w.add(XOR, n - 1, n - 9, 0);
        }
        w.next(0, 31);
        w.next(5, 18);
        w.set(2, true);
        w.set(9, true);
        return w;
    }

    /** Three registers that count up while input 0 is 1: nets 1, 2, 3; the last net is 8. */
    static GateWorkbench counter() {
        GateWorkbench w = with(INPUT, REGISTER, REGISTER, REGISTER);
        w.add(XOR, 0, 1, 0);
        w.add(AND, 0, 1, 0);
        w.add(XOR, 5, 2, 0);
        w.add(AND, 5, 2, 0);
        w.add(XOR, 7, 3, 0);
        w.next(1, 4);
        w.next(2, 6);
        w.next(3, 8);
        return w;
    }

    /** Six registers, nets 0 .. 5, that count up; net 16 is 1 when all are, and then holds them. */
    static GateWorkbench holdingCounter() {
        GateWorkbench w = sixRegisters();
        w.add(NOT, 0, 0, 0);
        int carry = 0;
        for (int n = 1; n < 6; n++) {
            w.add(XOR, n, carry, 0);
            carry = w.add(AND, n, carry, 0);
        }
        for (int n = 0; n < 6; n++) {
            int hold = w.add(OR, sumOf(n), carry, 0);
            w.next(n, hold);
        }
        return w;
    }

    /** The same without the hold: after all ones it counts from 0 again. */
    static GateWorkbench roundCounter() {
        GateWorkbench w = holdingCounter();
        for (int n = 0; n < 6; n++) {
            w.next(n, sumOf(n));
        }
        return w;
    }

    private static int sumOf(int register) {
        return register == 0 ? 6 : 5 + 2 * register;
    }

    /** Register 0 turns with each tick; a 1 in register 5 goes down to register 1 and is lost. */
    static GateWorkbench turnWithTail() {
        GateWorkbench w = sixRegisters();
        w.add(NOT, 0, 0, 0);
        w.add(CONSTANT, 0, 0, 0);
        w.next(0, 6);
        for (int n = 1; n < 5; n++) {
            w.next(n, n + 1);
        }
        w.next(5, 7);
        w.set(5, true);
        return w;
    }
}
