import java.io.IOException;
import java.lang.reflect.Method;
import java.lang.reflect.Modifier;
import java.net.URL;
import java.net.URLClassLoader;
import java.nio.file.Files;
import java.nio.file.Path;
import java.util.ArrayList;
import java.util.List;
import java.util.regex.Matcher;
import java.util.regex.Pattern;
import javax.tools.JavaCompiler;
import javax.tools.ToolProvider;

/**
 * The example of README.md, compiled and run as it stands there. Reading it from the file, not copying it, keeps the
 * two from drifting apart.
 */
public final class ReadmeTest {
    private static final Check CHECK = new Check();
    private static final Path README = Path.of("README.md");
    private static final Path PLACE = Path.of("build", "readme");
    private static final String MAKING = "ProvisionAgent agent = new ProvisionAgent();";
    /** What a variable is made of, the call, its method's name, and the answer told. */
    private static final Pattern LINE = Pattern.compile("(int \\w+ = )?(agent\\.(\\w+)\\(.*\\));\\s+// (-?\\d+): .+");

    private record Call(String variable, String words, String method, int told) {
    }

    public static void main(String[] args) throws IOException, ReflectiveOperationException {
        List<Call> calls = calls(example(Files.readAllLines(README)));
        usesTheWholeFace(calls);
        if (CHECK.clean() && compiles(source(calls))) {
            int[] answers = answers();
            for (int i = 0; i < calls.size(); i++) {
                CHECK.due(calls.get(i).words, answers[i], calls.get(i).told);
            }
        }
        CHECK.end();
    }

    private static List<String> example(List<String> readme) {
        int begin = readme.indexOf("```java");
        List<String> rest = readme.subList(begin + 1, readme.size());
        int end = rest.indexOf("```");
        CHECK.same("README.md", begin < 0 || end < 0 ? "has no example" : "has an example", "has an example");
        return rest.subList(0, Math.max(end, 0));
    }

    /** A line that tells no answer would go untested, so there is none but the first. */
    private static List<Call> calls(List<String> example) {
        List<Call> calls = new ArrayList<>();
        CHECK.same("the first line", example.isEmpty() ? "none" : example.get(0), MAKING);
        for (String line : example.subList(Math.min(1, example.size()), example.size())) {
            Matcher parts = LINE.matcher(line);
            boolean tells = parts.matches();
            CHECK.same(line, tells ? "tells an answer" : "tells none", "tells an answer");
            if (tells) {
                String variable = parts.group(1) == null ? "" : parts.group(1);
                calls.add(new Call(variable, parts.group(2), parts.group(3), Integer.parseInt(parts.group(4))));
            }
        }
        return calls;
    }

    private static void usesTheWholeFace(List<Call> calls) {
        for (Method method : ProvisionAgent.class.getDeclaredMethods()) {
            if (Modifier.isPublic(method.getModifiers())) {
                boolean used = calls.stream().anyMatch(call -> call.method.equals(method.getName()));
                CHECK.same(method.getName(), used ? "used" : "not used", "used");
            }
        }
    }

    private static String source(List<Call> calls) {
        StringBuilder text = new StringBuilder("public final class Example {\n    public static int[] answers() {\n");
        text.append("int[] answers = new int[").append(calls.size()).append("];\n").append(MAKING).append("\n");
        for (int i = 0; i < calls.size(); i++) {
            Call call = calls.get(i);
            text.append(call.variable).append("answers[").append(i).append("] = ").append(call.words).append(";\n");
        }
        return text.append("return answers;\n    }\n}\n").toString();
    }

    private static boolean compiles(String source) throws IOException {
        Path file = PLACE.resolve("Example.java");
        Files.createDirectories(PLACE);
        Files.writeString(file, source);
        JavaCompiler compiler = ToolProvider.getSystemJavaCompiler();
        int exit = compiler.run(null, null, null, "--release", "17", "-cp", System.getProperty("java.class.path"),
                "-d", PLACE.toString(), file.toString());
        CHECK.same("the example", exit == 0 ? "compiles" : "does not compile", "compiles");
        return exit == 0;
    }

    private static int[] answers() throws IOException, ReflectiveOperationException {
        try (URLClassLoader loader = new URLClassLoader(new URL[] {PLACE.toUri().toURL()})) {
            return (int[]) loader.loadClass("Example").getMethod("answers").invoke(null);
        }
    }
}
