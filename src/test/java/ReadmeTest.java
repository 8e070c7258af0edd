import java.io.IOException;
import java.lang.reflect.Method;
import java.lang.reflect.Modifier;
import java.nio.charset.StandardCharsets;
import java.nio.file.Files;
import java.nio.file.Path;
import java.util.ArrayList;
import java.util.List;
import java.util.regex.Matcher;
import java.util.regex.Pattern;
import javax.tools.ToolProvider;

/** README.md tells no wrong answer: its code is compiled and run, and it names every call of the face. */
public final class ReadmeTest {
    private static final Pattern BLOCK = Pattern.compile("(?s)```java\n(.*?)```");
    private static final Pattern ANSWER = Pattern.compile("(house\\.\\w+\\(.*\\));\\s+// (-?\\d+)\\b.*");
    private static final int LEAST_ANSWERS = 10;

    public static void main(String[] args) throws IOException, ReflectiveOperationException {
        String readme = Files.readString(Path.of("README.md"), StandardCharsets.UTF_8);
        List<String> blocks = new ArrayList<>();
        Matcher found = BLOCK.matcher(readme);
        while (found.find()) {
            blocks.add(found.group(1));
        }
        Check.due("blocks of code: a helper, an example", blocks.size(), 2);
        if (blocks.size() == 2) {
            runExample(blocks.get(0), blocks.get(1));
        }
        for (Method m : BorrowedWeight.class.getDeclaredMethods()) {
            boolean isNamed = readme.contains("`" + m.getName() + "`");
            Check.yes("README.md names " + m.getName(), isNamed || !Modifier.isPublic(m.getModifiers()));
        }
        Check.close("ReadmeTest");
    }

    /** Compiles to where this class is, so that one loader has both and the example can use Check. */
    private static void runExample(String helper, String example) throws IOException, ReflectiveOperationException {
        Path classes = Path.of(System.getProperty("java.class.path"));
        Path source = classes.resolve("ReadmeExample.java");
        Files.writeString(source, "public final class ReadmeExample {\n" + helper
                + "public static void main(String[] args) {\n" + withChecks(example) + "}\n}\n");
        int code = ToolProvider.getSystemJavaCompiler().run(null, null, null, "-cp", classes.toString(),
                "-d", classes.toString(), source.toString());
        Check.due("the code of README.md compiles", code, 0);
        if (code == 0) {
            int before = Check.asked();
            Class.forName("ReadmeExample").getMethod("main", String[].class).invoke(null, (Object) new String[0]);
            Check.yes("answers are told", Check.asked() - before >= LEAST_ANSWERS);
        }
    }

    private static String withChecks(String example) {
        StringBuilder code = new StringBuilder();
        for (String line : example.split("\n")) {
            Matcher answer = ANSWER.matcher(line);
            if (answer.matches()) {
                String call = answer.group(1);
                code.append("Check.due(\"README.md: ").append(call).append("\", ").append(call).append(", ")
                        .append(answer.group(2)).append(");\n");
            } else {
                code.append(line).append('\n');
            }
        }
        return code.toString();
    }
}
