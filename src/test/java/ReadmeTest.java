import java.io.ByteArrayOutputStream;
import java.io.IOException;
import java.io.PrintStream;
import java.lang.reflect.Method;
import java.lang.reflect.Modifier;
import java.nio.charset.StandardCharsets;
import java.nio.file.Files;
import java.nio.file.Path;
import java.util.ArrayList;
import java.util.List;
import java.util.regex.Matcher;
import java.util.regex.Pattern;

/** README.md: its example, and the row of each call; it is run in the directory of README.md. */
public final class ReadmeTest {
    private static final Check CHECK = new Check();
    private static final Pattern ROW =
            Pattern.compile("(?m)^\\| `(\\w+)\\(([^)]*)\\)` \\|.*\\|([SIA ]*)\\|$");

    public static void main(String[] args) throws IOException {
        String readme = Files.readString(Path.of("README.md"));
        example(readme);
        rows(readme);
        CHECK.end();
    }

    private static void example(String readme) throws IOException {
        CHECK.about("README.md, the example");
        String program = Files.readString(Path.of("src/test/java/Example.java"));
        CHECK.is(readme.contains("```java\n" + program + "```\n"), true, "that it stands there");
        CHECK.is(readme.contains("```text\n" + printed() + "```\n"), true, "that its output does");
    }

    private static String printed() {
        PrintStream console = System.out;
        ByteArrayOutputStream bytes = new ByteArrayOutputStream();
        System.setOut(new PrintStream(bytes, true, StandardCharsets.UTF_8));
        try {
            Example.main(new String[0]);
        } finally {
            System.setOut(console);
        }
        return bytes.toString(StandardCharsets.UTF_8).replace(System.lineSeparator(), "\n");
    }

    private static void rows(String readme) throws IOException {
        CHECK.about("README.md, the rows of the calls");
        List<String> shown = new ArrayList<>();
        for (Matcher row = ROW.matcher(readme); row.find();) {
            String exceptions = row.group(3).replace(" ", "");
            shown.add(row.group(1) + "(" + row.group(2) + ") " + exceptions);
        }
        List<String> due = face();
        for (String call : due) {
            CHECK.is(shown.contains(call), true, "that there is a row of " + call);
        }
        CHECK.is(shown.size(), due.size(), "the number of rows");
        for (Method method : BannerParade.class.getDeclaredMethods()) {
            if (Modifier.isPublic(method.getModifiers())) {
                String start = method.getName() + "(";
                boolean told = due.stream().anyMatch(call -> call.startsWith(start));
                CHECK.is(told, true, "that the document tells " + start);
            }
        }
    }

    /** The calls that the document's face tells, with the first letters of their exceptions. */
    private static List<String> face() throws IOException {
        String document = Files.readString(Path.of("../shared/DOC.md"));
        Pattern line = Pattern.compile("(?m)^    public \\w+ (\\w+)\\(([^)]*)\\)(?: throws (.*))?;$");
        List<String> calls = new ArrayList<>();
        for (Matcher call = line.matcher(document); call.find();) {
            String arguments = call.group(2).replaceAll("\\w+ (\\w+)", "$1");
            String exceptions = call.group(3) == null ? "" : call.group(3)
                    .replace("IllegalStateException", "S")
                    .replace("IndexOutOfBoundsException", "I")
                    .replace("IllegalArgumentException", "A")
                    .replace(", ", "");
            calls.add(call.group(1) + "(" + arguments + ") " + exceptions);
        }
        return calls;
    }
}
