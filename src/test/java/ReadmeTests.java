import java.io.IOException;
import java.lang.reflect.Method;
import java.lang.reflect.Modifier;
import java.net.URISyntaxException;
import java.nio.charset.StandardCharsets;
import java.nio.file.Files;
import java.nio.file.Path;
import java.util.ArrayList;
import java.util.List;
import java.util.regex.Matcher;
import java.util.regex.Pattern;
import javax.tools.ToolProvider;

/**
 * The examples of README.md, one behind the other, as one program: each call answers what its line tells behind //,
 * and each method of the face has an example.
 */
public final class ReadmeTests {
    private static final String NAME = "ReadmeExamples";
    private static final Pattern BLOCK = Pattern.compile("(?s)```java\n(.*?)```");
    private static final Pattern EXAMPLE = Pattern.compile("(x\\.\\w+\\(.*\\)); // (throws \\w+|true|false|-?\\d+|\\d+\\.\\d+)(: .*)?");
    private static final Pattern NUMBER = Pattern.compile("-?\\d+");

    public static void main(String[] args) throws ReflectiveOperationException, IOException, URISyntaxException {
        String readme = Files.readString(Path.of("README.md"), StandardCharsets.UTF_8);
        String program = programOf(blocksOf(readme));
        Path folder = Path.of(ReadmeTests.class.getProtectionDomain().getCodeSource().getLocation().toURI());
        Path file = folder.resolve(NAME + ".java");
        Files.writeString(file, program, StandardCharsets.UTF_8);
        int result = ToolProvider.getSystemJavaCompiler().run(null, null, null, "-encoding", "UTF-8", "-d", folder.toString(),
                "-cp", folder.toString(), file.toString());
        Check.same("the compiler", result, 0);
        if (result == 0) {
            Class.forName(NAME).getMethod("main", String[].class).invoke(null, (Object) new String[0]);
        }
        eachMethodHasAnExample(program);
        Check.end("ReadmeTests");
    }

    private static List<String> blocksOf(String readme) {
        List<String> blocks = new ArrayList<>();
        Matcher found = BLOCK.matcher(readme);
        while (found.find()) {
            blocks.add(found.group(1));
        }
        return blocks;
    }

    /** A block that begins with static tells methods, another one what main does. */
    private static String programOf(List<String> blocks) {
        StringBuilder methods = new StringBuilder();
        StringBuilder main = new StringBuilder();
        for (String block : blocks) {
            if (block.startsWith("static")) {
                methods.append(block);
                continue;
            }
            for (String line : block.split("\n")) {
                main.append(checked(line)).append('\n');
            }
        }
        return "public final class " + NAME + " {\n" + methods + "public static void main(String[] args) {\n" + main + "}\n}\n";
    }

    private static String checked(String line) {
        Matcher example = EXAMPLE.matcher(line);
        if (!example.matches()) {
            Check.isFalse("README.md has an example that can't be checked: " + line,
                    line.contains("//") || line.startsWith("x."));
            return line;
        }
        String call = example.group(1);
        String answer = example.group(2);
        String what = "\"README.md: " + call + "\"";
        if (answer.startsWith("throws ")) {
            return "Check.throwsOnly(" + what + ", x, \"" + answer.substring(7) + "\", () -> " + call + ");";
        }
        if (NUMBER.matcher(answer).matches()) {
            return "Check.same(" + what + ", " + call + ", " + answer + "L);";
        }
        return "Check.isTrue(" + what + ", " + call + " == " + answer + ");";
    }

    private static void eachMethodHasAnExample(String program) {
        for (Method method : CardBridge.class.getDeclaredMethods()) {
            if (Modifier.isPublic(method.getModifiers())) {
                Check.isTrue("README.md has an example of " + method.getName(),
                        program.contains("x." + method.getName() + "("));
            }
        }
    }
}
