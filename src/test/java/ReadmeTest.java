import java.io.IOException;
import java.lang.reflect.Method;
import java.lang.reflect.Modifier;
import java.nio.file.Files;
import java.nio.file.Path;
import java.util.ArrayList;
import java.util.List;
import java.util.function.Supplier;

/** README.md: its example answers as it says there, and its table names each call of the face. */
public final class ReadmeTest {
    private static final List<String> LINES = new ArrayList<>();
    private static int next;

    public static void main(String[] args) throws IOException {
        String readme = Files.readString(Path.of("README.md"));
        int from = readme.indexOf("```java\n");
        int to = readme.indexOf("\n```", from + 1);
        if (from < 0 || to < 0) {
            Due.fault("README.md has no example");
        } else {
            LINES.addAll(readme.substring(from + 8, to).lines().toList());
            example();
            Due.is("lines of the example that were run", next, LINES.size());
        }
        table(readme);
        Due.end();
    }

    private static void example() {
        StartedByAYawn lake = new StartedByAYawn();
        Due.is("first line", LINES.get(next++).equals("StartedByAYawn lake = new StartedByAYawn();"), true);
        line("lake.sign(0x352F323E);", () -> lake.sign(0x352F323E));
        line("lake.sign(0x623B352F);", () -> lake.sign(0x623B352F));
        line("lake.sign(0x333E6100);", () -> lake.sign(0x333E6100));
        line("lake.end(11);", () -> lake.end(11));
        line("lake.wall();", () -> lake.wall());
        line("lake.judges(2);", () -> lake.judges(2));
        line("lake.yawn(0, 1);", () -> lake.yawn(0, 1));
        line("lake.start();", () -> lake.start());
        line("lake.row(0);", () -> lake.row(0));
        line("lake.row(1);", () -> lake.row(1));
        line("lake.minutes(4);", () -> lake.minutes(4));
        line("lake.undo();", () -> lake.undo());
        line("lake.yawn(0, 0);", () -> lake.yawn(0, 0));
        line("lake.wall();", () -> lake.wall());
        line("lake.dies(2);", () -> lake.dies(2));
    }

    private static void line(String call, Supplier<Object> run) {
        String line = next < LINES.size() ? LINES.get(next) : "";
        next++;
        String due = call + " // " + run.get() + ":";
        if (!line.replaceAll(" +", " ").startsWith(due)) {
            Due.fault("README.md says '" + line + "', due is '" + due + "'");
        }
    }

    private static void table(String readme) {
        for (Method m : StartedByAYawn.class.getDeclaredMethods()) {
            if (Modifier.isPublic(m.getModifiers())) {
                boolean named = readme.lines().anyMatch(l -> l.startsWith("| `") && l.contains("`" + m.getName() + "`"));
                Due.is("the table names " + m.getName(), named, true);
            }
        }
    }
}
