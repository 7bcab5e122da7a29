import java.io.IOException;
import java.lang.reflect.Method;
import java.lang.reflect.Modifier;
import java.nio.file.Files;
import java.nio.file.Path;
import java.util.List;

/** README.md: its example answers what its comments tell, and its list names each call of the face. */
public final class ReadmeTest extends Runs {
    private static final Path README = Path.of("README.md");

    public static void main(String[] args) throws IOException {
        List<String> lines = Files.readAllLines(README);
        exampleAnswersAsTold(lines);
        everyCallIsListed(lines);
        CHECK.end();
    }

    private static void exampleAnswersAsTold(List<String> lines) {
        CHECK.holds("the example types the early load", lines.stream().anyMatch(line -> line.contains(EARLY_LOAD)));
        AlibiWindow x = typed(EARLY_LOAD);
        dueAsTold(lines, "x.firstError();", x.firstError());
        dueAsTold(lines, "x.load();", x.load());
        dueAsTold(lines, "x.cyclesLeft();", x.cyclesLeft());
        dueAsTold(lines, "x.run(7);", x.run(7));
        dueAsTold(lines, "x.count(5);", x.count(5));
        dueAsTold(lines, "x.instruction(3, 5);", x.instruction(3, 5));
        dueAsTold(lines, "x.ifRun(3, 0);", x.ifRun(3, 0));
        dueAsTold(lines, "x.undo();", x.undo());
        dueAsTold(lines, "x.bestWindow(0);", x.bestWindow(0));
        CHECK.due("calls with an answer told", lines.stream().filter(line -> line.startsWith("x.")).count(), 9);
    }

    private static void dueAsTold(List<String> lines, String call, int answer) {
        String told = " *// " + answer + "\\b.*";
        boolean isTold = lines.stream().anyMatch(
            line -> line.startsWith(call) && line.substring(call.length()).matches(told));
        CHECK.holds("README.md tells " + answer + " for " + call, isTold);
    }

    private static void everyCallIsListed(List<String> lines) {
        for (Method method : AlibiWindow.class.getDeclaredMethods()) {
            if (Modifier.isPublic(method.getModifiers())) {
                String name = "`" + method.getName() + "`";
                CHECK.holds("README.md lists " + name,
                    lines.stream().anyMatch(line -> line.startsWith("| ") && line.contains(name)));
            }
        }
    }
}
