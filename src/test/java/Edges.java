import java.util.ArrayList;
import java.util.List;
import java.util.function.Supplier;
import java.util.function.ToLongFunction;

/** What the tests of the boundaries share: each answer is told with the sentence that asks for it. */
class Edges extends Bench {
    /** Numbers that are no net, whatever the circuit is. */
    static final int[] NEVER_A_NET = {MIN, MIN + 1, -33, -32, -2, -1, 32, 33, 64, MAX - 1, MAX};

    private static final Due due = new Due();
    private static String sentence = "";

    /** The sentence of the document, word for word, that the answers after it test. */
    static void sentence(String where, String words) {
        sentence = where + ": \"" + words + "\"";
    }

    static void is(String call, long got, long want) {
        due.is(sentence + " " + call, got, want);
    }

    static void is(String call, boolean got, boolean want) {
        due.is(sentence + " " + call, got, want);
    }

    static void end() {
        due.end();
    }

    static long number(boolean answer) {
        return answer ? 1 : 0;
    }

    /** The call's answer, and that the mixed circuit is after it as if it had not been made. */
    static void leavesAll(String text, ToLongFunction<GateWorkbench> call, long want) {
        leavesAll(text, Bench::mixed, call, want);
    }

    static void leavesAll(
            String text, Supplier<GateWorkbench> make, ToLongFunction<GateWorkbench> call, long want) {
        GateWorkbench called = make.get();
        is(text, call.applyAsLong(called), want);
        List<Long> got = everything(called);
        List<Long> due = everything(make.get());
        is(text + " changes nothing: " + got + " " + due, got.equals(due), true);
    }

    /** Fewer than 400 calls, so that an object stays below 512; it is used up by them. */
    private static List<Long> everything(GateWorkbench w) {
        List<Long> answers = new ArrayList<>();
        int nets = 0;
        while (nets < 33 && w.value(nets) != REFUSED) {
            nets++;
        }
        answers.add((long) nets);
        for (int n = 0; n < nets; n++) {
            answers.add((long) w.value(n));
            answers.add((long) w.count(n));
            answers.add((long) w.witness(n, 1));
            answers.add((long) w.alarm(n));
        }
        answers.add((long) w.cycle(0));
        answers.add((long) w.cycle(1));
        answers.add((long) w.configurations());
        answers.add((long) w.level(nets - 1, 3));
        answers.add((long) w.classes(nets - 1));
        answers.add((long) w.tick(0));
        answers.add((long) w.tick(1));
        answers.add((long) w.tick(1));
        answers.add((long) w.drop());
        for (int n = 0; n < nets; n++) {
            answers.add(number(w.set(n, true)));
            answers.add(number(w.next(n, n)));
        }
        takeApartAndFill(w, answers);
        return answers;
    }

    /** Counted, so that a program that never says REFUSED or FULL does not hold the test up. */
    private static void takeApartAndFill(GateWorkbench w, List<Long> answers) {
        long left = 1;
        for (int tries = 0; tries < 33 && left > 0; tries++) {
            left = w.drop();
            answers.add(left);
        }
        for (int kind : new int[] {REGISTER, INPUT, CONSTANT}) {
            long made = 0;
            for (int tries = 0; tries < 33 && made >= 0; tries++) {
                made = w.add(kind, 0, 0, 0);
                answers.add(made);
            }
        }
    }
}
