import java.io.IOException;
import java.lang.reflect.Method;
import java.lang.reflect.Modifier;
import java.nio.file.Files;
import java.nio.file.Path;
import java.util.ArrayList;
import java.util.List;
import java.util.Set;
import java.util.TreeSet;
import java.util.regex.Matcher;
import java.util.regex.Pattern;
import java.util.stream.Stream;

/** README.md: its examples answer as it says, it shows every call of the face, and names every test. */
public final class ReadmeTest {
    private static final Pattern CALL = Pattern.compile("\\bx\\.(\\w+)\\(([^)]*)\\)\\)?;\\s*// (throws \\w+|[\\w-]+)(:.*)?");

    private ReadmeTest() {
    }

    private static Object value(String text) {
        boolean isYesOrNo = text.equals("true") || text.equals("false");
        return isYesOrNo ? (Object) Boolean.valueOf(text) : (Object) Integer.valueOf(text);
    }

    private static Object[] values(String arguments) {
        List<Object> found = new ArrayList<>();
        for (String one : arguments.isBlank() ? new String[0] : arguments.split(",")) {
            found.add(value(one.trim()));
        }
        return found.toArray();
    }

    /** Does the calls of all examples, one behind another; the names of those that were done. */
    private static Set<String> examples(String readme) {
        Set<String> done = new TreeSet<>();
        FairRates x = null;
        boolean isJava = false;
        for (String line : readme.split("\n")) {
            if (line.startsWith("```")) {
                isJava = line.equals("```java");
            } else if (isJava && line.contains("new FairRates()")) {
                x = new FairRates();
            } else if (isJava && line.contains("x.")) {
                Matcher m = CALL.matcher(line);
                Due.yes("an example with its answer: " + line, m.find() && x != null);
                String due = m.group(3).startsWith("throws") ? "throws" : m.group(3);
                Due.text(line.trim(), Script.answer(x, m.group(1), values(m.group(2))), due);
                done.add(m.group(1));
            }
        }
        return done;
    }

    private static void everyCall(Set<String> done) {
        for (Method m : FairRates.class.getDeclaredMethods()) {
            if (Modifier.isPublic(m.getModifiers())) {
                Due.yes("an example of " + m.getName(), done.contains(m.getName()));
            }
        }
    }

    private static void everyTest(String readme, Path tests) throws IOException {
        List<Path> files;
        try (Stream<Path> found = Files.list(tests)) {
            files = found.filter(p -> p.toString().endsWith("Test.java")).toList();
        }
        Due.yes("tests were found", files.size() > 10);
        for (Path file : files) {
            String name = file.getFileName().toString().replace(".java", "");
            Due.yes("README names " + name, readme.contains("`" + name + "`"));
        }
        for (Matcher m = Pattern.compile("\\| `(\\w+Test)` \\|").matcher(readme); m.find();) {
            Due.yes("there is " + m.group(1), Files.isRegularFile(tests.resolve(m.group(1) + ".java")));
        }
    }

    public static void main(String[] args) throws IOException {
        Path root = Path.of(System.getProperty("fairrates.root", "."));
        String readme = Files.readString(root.resolve("README.md"));
        everyCall(examples(readme));
        everyTest(readme, root.resolve("src/test/java"));
        Due.yes("the command that runs all tests", readme.contains("```sh\n.ci/run\n```")
            && Files.isExecutable(root.resolve(".ci/run")));
        Due.end();
    }
}
