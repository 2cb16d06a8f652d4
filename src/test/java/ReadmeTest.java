import java.io.IOException;
import java.lang.reflect.Method;
import java.lang.reflect.Modifier;
import java.nio.file.Files;
import java.nio.file.Path;
import java.util.ArrayList;
import java.util.List;
import java.util.Set;
import java.util.TreeSet;
import java.util.regex.Matcher;
import java.util.regex.Pattern;
import java.util.stream.Stream;

/** The runs of calls in README.md get the answers that stand behind them, and they show every method of the class. */
public final class ReadmeTest {
    private static final Path README = Path.of("README.md");
    private static final Pattern BLOCK = Pattern.compile("(?s)```java\n(.*?)```");
    private static final Pattern CALL = Pattern.compile("x\\.(\\w+)(\\([^)]*\\)); *// (-?\\d+)(?:, (.*))?");
    private static final Pattern TYPED = Pattern.compile("type\\(x, \"([^\"]*)\"\\);");
    private static final String NEW = "CondensedDetachment x = new CondensedDetachment();";
    private static final String OUTPUT = "output ";

    public static void main(String[] args) {
        Checks.run(ReadmeTest.class);
    }

    static void readme_answersAreTrue() throws IOException {
        Checks.due(runs().size(), 5);
        for (String run : runs()) {
            Replay replay = new Replay();
            for (String line : run.substring(NEW.length()).strip().split("\n")) {
                follow(replay, line);
            }
        }
    }

    static void readme_showsEveryMethod() throws IOException {
        Set<String> shown = new TreeSet<>();
        for (String run : runs()) {
            Matcher call = CALL.matcher(run);
            while (call.find()) {
                shown.add(call.group(1));
            }
        }
        for (Method method : CondensedDetachment.class.getDeclaredMethods()) {
            if (Modifier.isPublic(method.getModifiers())) {
                Checks.due(method.getName() + " " + shown.contains(method.getName()), method.getName() + " true");
            }
        }
    }

    static void readme_namesEveryTest() throws IOException {
        String readme = Files.readString(README);
        try (Stream<Path> tests = Files.list(Path.of("src/test/java"))) {
            for (Path test : tests.toList()) {
                String name = test.getFileName().toString().replace(".java", "");
                Checks.due(name + " " + readme.contains("`" + name + "`"), name + " true");
            }
        }
    }

    private static List<String> runs() throws IOException {
        List<String> runs = new ArrayList<>();
        Matcher block = BLOCK.matcher(Files.readString(README));
        while (block.find()) {
            if (block.group(1).startsWith(NEW)) {
                runs.add(block.group(1));
            }
        }
        return runs;
    }

    private static void follow(Replay replay, String line) {
        Matcher typed = TYPED.matcher(line);
        Matcher call = CALL.matcher(line);
        if (typed.matches()) {
            replay.type(typed.group(1));
        } else if (call.matches()) {
            replay.due(call.group(1) + call.group(2), Long.parseLong(call.group(3)));
            if (call.group(4) != null && call.group(4).startsWith(OUTPUT)) {
                Checks.due(replay.output(), call.group(4).substring(OUTPUT.length()));
            }
        } else {
            Checks.due(line, "a call with its answer");
        }
    }
}
