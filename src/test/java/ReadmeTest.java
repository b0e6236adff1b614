import java.lang.reflect.Method;
import java.lang.reflect.Modifier;
import java.net.URL;
import java.net.URLClassLoader;
import java.nio.file.Files;
import java.nio.file.Path;
import java.util.ArrayList;
import java.util.List;
import java.util.Set;
import java.util.TreeSet;
import java.util.regex.Matcher;
import java.util.regex.Pattern;
import javax.tools.ToolProvider;

/** The java blocks of README.md, compiled as one program: each call answers the number behind it. */
public final class ReadmeTest {
    private static final Path README = Path.of("README.md");
    private static final Path MADE = Path.of("build/readme");
    private static final Pattern CALL = Pattern.compile("(x\\.(\\w+)\\(.*\\));\\s*// (-?\\d+):.*");

    private ReadmeTest() {
    }

    public static void main(String[] args) throws Exception {
        Set<String> names = new TreeSet<>();
        String program = programOf(names);
        Path source = MADE.resolve("ReadmeProgram.java");
        Files.createDirectories(MADE);
        Files.writeString(source, program);
        int compiled = ToolProvider.getSystemJavaCompiler().run(null, null, null, "-cp",
            System.getProperty("java.class.path"), "-d", MADE.toString(), source.toString());
        if (compiled != 0) {
            System.out.println("the java blocks of README.md do not compile");
            System.exit(1);
        }
        Due due = new Due();
        for (Method method : IntoTheCorner.class.getDeclaredMethods()) {
            if (Modifier.isPublic(method.getModifiers()) && !names.contains(method.getName())) {
                due.fails("README.md never uses " + method.getName());
            }
        }
        List<Object[]> answers = new ArrayList<>();
        try (URLClassLoader loader = new URLClassLoader(new URL[] {MADE.toUri().toURL()})) {
            loader.loadClass("ReadmeProgram").getMethod("run", List.class).invoke(null, answers);
        }
        for (Object[] answer : answers) {
            due.is((String) answer[0], (Integer) answer[1], (Integer) answer[2]);
        }
        due.end();
    }

    private static String programOf(Set<String> names) throws Exception {
        StringBuilder program = new StringBuilder("public class ReadmeProgram {\n")
            .append("public static void run(java.util.List<Object[]> answers) {\n");
        boolean inside = false;
        for (String line : Files.readAllLines(README)) {
            if (line.startsWith("```")) {
                inside = line.equals("```java");
            } else if (inside) {
                Matcher call = CALL.matcher(line);
                if (call.matches()) {
                    names.add(call.group(2));
                    line = "answers.add(new Object[] {\"" + call.group(1) + "\", " + call.group(1) + ", "
                        + call.group(3) + "});";
                }
                program.append(line).append('\n');
            }
        }
        return program.append("}\n}\n").toString();
    }
}
