import java.io.IOException;
import java.lang.reflect.Method;
import java.lang.reflect.Modifier;
import java.nio.file.DirectoryStream;
import java.nio.file.Files;
import java.nio.file.Path;
import java.util.ArrayList;
import java.util.Collections;
import java.util.List;

/** README.md as it stands: its examples are the lines of example(), and it leaves no method or test out. */
public final class ReadmeTest {
    private static final Path README = Path.of("README.md");
    private static final Path TESTS = Path.of("src/test/java");
    private static final Check CHECK = new Check("ReadmeTest");

    public static void main(String[] args) throws IOException {
        example();
        List<String> readme = strippedLines(README);
        examplesStandHere(readme);
        namesEveryMethod(readme);
        namesEveryTest(readme);
        CHECK.finish();
    }

    private static void example() {
        ComponentContainer container = new ComponentContainer();
        int service = container.add(1 << 0, ComponentContainer.SINGLETON);
        int helper = container.add(1 << 1, ComponentContainer.PROTOTYPE);
        container.depend(service, 1, ComponentContainer.NONE, ComponentContainer.REQUIRED);

        int instance = container.resolve(0, ComponentContainer.NONE); // 1: the helper was completed before it, as 0
        int injected = container.injected(instance, 0);               // 0: the instance of the helper
        int destroyed = container.close();                            // 1: the service; prototypes are not kept

        CHECK.same("instance", instance, 1);
        CHECK.same("injected", injected, 0);
        CHECK.same("destroyed", destroyed, 1);
        CHECK.same("the service is alive", container.isAlive(instance), false);
        failing(container, service, helper);
    }

    private static void failing(ComponentContainer container, int service, int helper) {
        container.depend(helper, 2, ComponentContainer.NONE, ComponentContainer.REQUIRED);
        int problem = container.problem(service);                     // NO_CANDIDATE: nothing provides type 2
        try {
            container.resolve(0, ComponentContainer.NONE);
        } catch (IllegalStateException e) {
            int kind = container.failureKind();                       // NO_CANDIDATE
            int detail = container.failureDetail();                   // 2: the type that was requested
            int length = container.failureChain(-1);                  // 2: the service, and the helper for it
        }
        CHECK.same("problem", problem, ComponentContainer.NO_CANDIDATE);
        CHECK.failure(container, "the failure", ComponentContainer.NO_CANDIDATE, 2, service, helper);
    }

    private static List<String> strippedLines(Path file) throws IOException {
        List<String> lines = new ArrayList<>();
        for (String line : Files.readAllLines(file)) {
            lines.add(line.strip());
        }
        return lines;
    }

    private static void examplesStandHere(List<String> readme) throws IOException {
        List<String> here = strippedLines(TESTS.resolve("ReadmeTest.java"));
        int examples = 0;
        for (int i = 0; i < readme.size(); i++) {
            if (readme.get(i).equals("```java")) {
                List<String> rest = readme.subList(i + 1, readme.size());
                List<String> example = rest.subList(0, rest.indexOf("```"));
                boolean stands = Collections.indexOfSubList(here, example) != -1;
                CHECK.same("the example '" + example.get(0) + "' is run here", stands, true);
                examples++;
            }
        }
        CHECK.same("examples", examples, 2);
    }

    private static void namesEveryMethod(List<String> readme) {
        for (Method method : ComponentContainer.class.getDeclaredMethods()) {
            if (Modifier.isPublic(method.getModifiers())) {
                CHECK.same("names " + method.getName(), namesInTable(readme, method.getName()), true);
            }
        }
    }

    private static void namesEveryTest(List<String> readme) throws IOException {
        int tests = 0;
        try (DirectoryStream<Path> files = Files.newDirectoryStream(TESTS, "*Test.java")) {
            for (Path file : files) {
                String name = file.getFileName().toString().replace(".java", "");
                CHECK.same("names " + name, namesInTable(readme, name), true);
                tests++;
            }
        }
        int named = 0;
        for (String line : readme) {
            named += line.matches("\\| `\\w+Test` \\|.*") ? 1 : 0;
        }
        CHECK.same("tests that are named", named, tests);
    }

    private static boolean namesInTable(List<String> readme, String name) {
        for (String line : readme) {
            if (line.startsWith("|") && line.contains("`" + name + "`")) {
                return true;
            }
        }
        return false;
    }
}
