import java.io.IOException;
import java.lang.reflect.InvocationTargetException;
import java.lang.reflect.Method;
import java.lang.reflect.Modifier;
import java.net.URL;
import java.net.URLClassLoader;
import java.nio.file.Files;
import java.nio.file.Path;
import java.util.ArrayList;
import java.util.List;
import java.util.regex.Matcher;
import java.util.regex.Pattern;
import java.util.stream.Stream;
import javax.tools.ToolProvider;

/** What README.md shows of the class's use answers as it says, and it names all that there is. */
public final class ReadmeTest {
    private static final Due due = new Due();
    private static final Pattern BLOCK = Pattern.compile("(?s)```java\n(.*?)```");
    private static final Pattern ANSWERED = Pattern.compile("(?:int (\\w+) = )?(\\w+\\.\\w+\\(.*\\)); +// (-?\\d+): .+");

    private ReadmeTest() {
    }

    public static void main(String[] args) throws Exception {
        String page = Files.readString(Path.of("README.md"));
        due.sentence("README.md", "names every call");
        for (Method m : HedgeCouncil.class.getDeclaredMethods()) {
            if (Modifier.isPublic(m.getModifiers())) due.isSo(m.getName(), page.contains("`" + m.getName() + "`"));
        }
        due.sentence("README.md", "names every test, and no other");
        tests(page);
        due.sentence("README.md", "answers as it says");
        run(program(page));
        due.close();
    }

    private static void tests(String page) throws IOException {
        try (Stream<Path> files = Files.list(Path.of("src/test/java"))) {
            for (Path file : files.toList()) {
                String name = file.getFileName().toString().replace(".java", "");
                due.isSo(name, page.contains("`" + name + "`"));
            }
        }
        Matcher named = Pattern.compile("\\b[A-Z]\\w*Test\\b").matcher(page);
        while (named.find()) due.isSo(named.group(), Files.exists(Path.of("src/test/java", named.group() + ".java")));
    }

    /** The pieces of Java as one program; each call's answer is put into a list, behind it the one that is due. */
    private static String program(String page) {
        StringBuilder methods = new StringBuilder();
        StringBuilder lines = new StringBuilder();
        int calls = 0;
        Matcher block = BLOCK.matcher(page);
        while (block.find()) {
            if (block.group(1).startsWith("static ")) {
                methods.append(block.group(1));
                continue;
            }
            for (String line : block.group(1).split("\n")) {
                Matcher m = ANSWERED.matcher(line);
                boolean isAnswered = m.matches();
                due.isSo("a line with a call says its answer: " + line,
                    isAnswered || line.contains(" = new HedgeCouncil();") || line.startsWith("put("));
                if (!isAnswered) {
                    lines.append(line).append('\n');
                    continue;
                }
                calls++;
                if (m.group(1) != null) lines.append("int ").append(m.group(1)).append(" = ").append(m.group(2)).append(";\n");
                lines.append("told.add((long) ").append(m.group(1) != null ? m.group(1) : m.group(2)).append(");");
                lines.append("told.add(").append(m.group(3)).append("L);\n");
            }
        }
        due.isSo("it shows the class's use", calls > 50);
        return "public class Readme { " + methods + " public static void main(java.util.List<Long> told) { " + lines + " } }";
    }

    private static void run(String program) throws Exception {
        Path folder = Files.createTempDirectory("readme");
        Path source = folder.resolve("Readme.java");
        Files.writeString(source, program);
        String classes = System.getProperty("java.class.path");
        int failed = ToolProvider.getSystemJavaCompiler().run(null, null, null, "-cp", classes, "-d", folder.toString(), source.toString());
        due.is("compiling what README.md shows", failed, 0);
        List<Long> told = new ArrayList<>();
        if (failed == 0) {
            try (URLClassLoader loader = new URLClassLoader(new URL[] {folder.toUri().toURL()})) {
                loader.loadClass("Readme").getMethod("main", List.class).invoke(null, told);
            } catch (InvocationTargetException e) {
                due.isSo("it throws " + e.getCause(), false);
            }
        }
        List<String> shown = Files.readAllLines(Path.of("README.md")).stream().filter(s -> ANSWERED.matcher(s).matches()).toList();
        due.is("calls that answered", told.size() / 2, shown.size());
        for (int i = 0; i < shown.size() && 2 * i + 1 < told.size(); i++) {
            due.is(shown.get(i), told.get(2 * i), told.get(2 * i + 1));
        }
        try (Stream<Path> made = Files.list(folder)) {
            for (Path file : made.toList()) Files.delete(file);
        }
        Files.delete(folder);
    }
}
