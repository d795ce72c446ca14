import java.io.File;
import java.io.IOException;
import java.lang.reflect.Method;
import java.lang.reflect.Modifier;
import java.nio.file.Files;
import java.nio.file.Path;
import java.util.ArrayList;
import java.util.List;

/** README.md tells what is so: the answers in its example, every call, and every test. */
public final class ReadmeTest {
    private final Due due = new Due();
    private final String readme;
    private final List<String> example = new ArrayList<>();
    private int line = 0;

    private ReadmeTest(String readme) {
        this.readme = readme;
        String start = "```java\n";
        int from = readme.indexOf(start) + start.length();
        int to = readme.indexOf("```", from);
        for (String told : readme.substring(from, to).split("\n")) {
            if (told.startsWith("w.")) {
                example.add(told);
            }
        }
    }

    public static void main(String[] args) throws IOException {
        ReadmeTest test = new ReadmeTest(Files.readString(Path.of("README.md")));
        test.exampleAnswersAsTold();
        test.everyCallIsTold();
        test.everyTestIsTold();
        test.due.end();
    }

    private void exampleAnswersAsTold() {
        GateWorkbench w = new GateWorkbench();
        told("w.add(0, 0, 0, 0)", w.add(0, 0, 0, 0));
        told("w.add(1, 0, 0, 0)", w.add(1, 0, 0, 0));
        told("w.add(6, 0, 1, 0)", w.add(6, 0, 1, 0));
        told("w.next(1, 2)", w.next(1, 2));
        told("w.set(0, true)", w.set(0, true));
        told("w.tick(3)", w.tick(3));
        told("w.value(2)", w.value(2));
        told("w.cycle(1)", w.cycle(1));
        told("w.count(2)", w.count(2));
        told("w.witness(2, 2)", w.witness(2, 2));
        told("w.primes(2)", w.primes(2));
        told("w.level(2, 2)", w.level(2, 2));
        told("w.level(2, 1)", w.level(2, 1));
        told("w.soonest(1)", w.soonest(1));
        told("w.alarm(2)", w.alarm(2));
        told("w.apart(2, 0, 1)", w.apart(2, 0, 1));
        told("w.drop()", w.drop());
        told("w.add(3, 3, 0, 0)", w.add(3, 3, 0, 0));
        due.is("lines of the example", example.size(), line);
    }

    /** The next line of the example is this call, and the answer behind it is the one given. */
    private void told(String call, Object answer) {
        String text = line < example.size() ? example.get(line) : "";
        line++;
        boolean isSo = text.startsWith(call + ";") && text.contains(" // " + answer + ": ");
        due.is("README.md tells that " + call + " answers " + answer + "; its line is '" + text + "'",
            isSo, true);
    }

    private void everyCallIsTold() {
        for (Method method : GateWorkbench.class.getDeclaredMethods()) {
            if (Modifier.isPublic(method.getModifiers())) {
                String row = "\n| `" + method.getName() + "(";
                due.is("README.md has a row for " + method.getName(), readme.contains(row), true);
            }
        }
    }

    private void everyTestIsTold() {
        for (File file : new File("src/test/java").listFiles()) {
            if (file.getName().endsWith("Test.java")) {
                String name = file.getName().replace(".java", "");
                due.is("README.md tells of " + name, readme.contains("`" + name + "`"), true);
            }
        }
    }
}
