import java.io.ByteArrayOutputStream;
import java.io.IOException;
import java.io.PrintStream;
import java.lang.reflect.Method;
import java.lang.reflect.Modifier;
import java.nio.charset.StandardCharsets;
import java.nio.file.Files;
import java.nio.file.Path;
import java.util.ArrayList;
import java.util.List;

/** README.md: what it shows must be so. It is looked for where the test is run, or where -Dhome tells. */
public final class ReadmeTest {
    private static final Path HOME = Path.of(System.getProperty("home", "."));
    private static final String FENCE = "```";

    public static void main(String[] args) throws IOException {
        String readme = Files.readString(HOME.resolve("README.md"));
        example(readme);
        ruleTexts(readme);
        everyCall(readme);
        everyTest(readme);
        Kit.finish("ReadmeTest");
    }

    /** The blocks of a sort, each without its fences. */
    private static List<String> blocks(String readme, String sort) {
        List<String> found = new ArrayList<>();
        String open = FENCE + sort + "\n";
        int at = readme.indexOf(open);
        while (at >= 0) {
            int behind = readme.indexOf(FENCE, at + open.length());
            found.add(readme.substring(at + open.length(), behind));
            at = readme.indexOf(open, behind);
        }
        return found;
    }

    private static void example(String readme) throws IOException {
        List<String> shown = blocks(readme, "java");
        Kit.due("java blocks", shown.size(), 1);
        String source = Files.readString(HOME.resolve("src/test/java/Example.java"));
        Kit.due("the example as its file is", shown.contains(source), true);
        List<String> printed = blocks(readme, "text");
        Kit.due("text blocks", printed.size(), 1);
        Kit.due("what the example prints", printed.contains(printedByExample()), true);
    }

    private static String printedByExample() {
        PrintStream before = System.out;
        ByteArrayOutputStream out = new ByteArrayOutputStream();
        System.setOut(new PrintStream(out, true, StandardCharsets.ISO_8859_1));
        Example.main(new String[0]);
        System.setOut(before);
        return out.toString(StandardCharsets.ISO_8859_1).replace(System.lineSeparator(), "\n");
    }

    /** Each line of the rules shown is a rule. */
    private static void ruleTexts(String readme) {
        List<String> texts = blocks(readme, "rules");
        Kit.due("rules blocks", texts.size(), 1);
        for (String text : texts) {
            Kit.fine(text, text.split("\n").length);
        }
    }

    private static void everyCall(String readme) {
        for (Method method : WatchHouse.class.getDeclaredMethods()) {
            if (Modifier.isPublic(method.getModifiers())) {
                String row = "| `" + method.getName() + "(";
                Kit.due("a row of " + method.getName(), readme.contains(row), true);
            }
        }
    }

    private static void everyTest(String readme) throws IOException {
        try (var files = Files.list(HOME.resolve("src/test/java"))) {
            for (Path file : files.toList()) {
                String name = file.getFileName().toString().replace(".java", "");
                if (name.endsWith("Test")) {
                    Kit.due("a line of " + name, readme.contains("- `" + name + "`: "), true);
                }
            }
        }
    }
}
