import java.io.File;
import java.io.IOException;
import java.lang.reflect.Method;
import java.lang.reflect.Modifier;
import java.nio.file.Files;
import java.nio.file.Path;
import java.util.regex.Matcher;
import java.util.regex.Pattern;

/** README.md tells right answers, each call of the class with its arguments, and each test. */
final class ReadmeTest {
    private static final Check CHECK = new Check();
    private static final Pattern CALL = Pattern.compile("towers\\.(\\w+\\([-\\d, ]*\\)); +// (-?\\d+)\\b.*");

    public static void main(String[] args) throws IOException {
        String page = Files.readString(Path.of("README.md"));
        int start = page.indexOf("```java");
        int end = page.indexOf("```", start + 1);
        CHECK.holds("there is an example", start >= 0 && end > start);
        example(page.substring(start, end));
        calls(page.substring(end));
        tests(page);
        CHECK.end("ReadmeTest");
    }

    private static void example(String code) {
        CallTowers towers = new CallTowers();
        String text = "";
        int played = 0;
        for (String line : code.split("\n")) {
            Matcher call = CALL.matcher(line);
            if (line.startsWith("String text = ")) {
                text = line.substring(line.indexOf('"') + 1, line.lastIndexOf('"'));
            } else if (line.contains("towers.write(text.charAt(i))")) {
                Check.type(towers, text);
            } else if (call.matches()) {
                CHECK.same("README: " + call.group(1), Check.play(towers, call.group(1)), Long.parseLong(call.group(2)));
                played++;
            } else {
                CHECK.holds("README: a line without an answer: " + line, !line.contains("towers."));
            }
        }
        CHECK.holds("README: the example has calls", played > 0);
    }

    private static void calls(String page) {
        for (Method method : CallTowers.class.getDeclaredMethods()) {
            if (Modifier.isPublic(method.getModifiers())) {
                Matcher told = Pattern.compile("`" + method.getName() + "\\(([\\w, ]*)\\)`").matcher(page);
                boolean found = told.find();
                CHECK.holds("README tells " + method.getName(), found);
                String inside = found ? told.group(1) : "";
                CHECK.same("README: arguments of " + method.getName(), inside.isEmpty() ? 0 : inside.split(",").length,
                    method.getParameterCount());
            }
        }
    }

    private static void tests(String page) {
        File[] files = new File("src/test/java").listFiles();
        CHECK.holds("there are tests", files != null && files.length > 0);
        for (File file : files == null ? new File[0] : files) {
            String name = file.getName().replace(".java", "");
            CHECK.holds("README tells " + name, !name.endsWith("Test") || page.contains("- `" + name + "`:"));
        }
    }
}
