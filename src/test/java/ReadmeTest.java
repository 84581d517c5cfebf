import java.io.IOException;
import java.lang.reflect.Method;
import java.lang.reflect.Modifier;
import java.net.URL;
import java.net.URLClassLoader;
import java.nio.file.Files;
import java.nio.file.Path;
import java.util.ArrayList;
import java.util.HashSet;
import java.util.List;
import java.util.Set;
import java.util.regex.Matcher;
import java.util.regex.Pattern;
import java.util.stream.Stream;
import javax.tools.JavaCompiler;
import javax.tools.ToolProvider;

/**
 * The example of README.md: it is compiled as it stands, its calls are made, and each answer that
 * stands behind a call is the one that the class gives.
 */
public final class ReadmeTest {
    /** A call and the answer behind it, which words may follow that say what it means. */
    private static final Pattern CALL =
            Pattern.compile(" *(x\\.(\\w+)\\(.*\\));(?: +// (-?[0-9]+|true|false|BAD|NONE)(?:: .+)?)?");
    private static final String HEAD = "public final class NAME {\n"
            + "    public static final java.util.List<Object[]> GIVEN = new java.util.ArrayList<>();\n"
            + "    private static void note(int line, Object answer) {\n"
            + "        GIVEN.add(new Object[] {line, answer});\n"
            + "    }\n"
            + "    public static void main(String[] args) {\n";
    private static final String FOOT = "    }\n}\n";

    private final List<String> example;
    private final Path folder;

    private ReadmeTest(List<String> example, Path folder) {
        this.example = example;
        this.folder = folder;
    }

    public static void main(String[] args) throws Exception {
        String readme = Files.readString(Path.of("README.md"));
        Path folder = Files.createTempDirectory("readme");
        try {
            ReadmeTest test = new ReadmeTest(exampleOf(readme), folder);
            test.everyCallIsShown();
            test.itCompilesAsItStands();
            test.eachAnswerIsGiven();
            everyTestIsNamed(readme);
        } finally {
            remove(folder);
        }
        Check.finish();
    }

    private static List<String> exampleOf(String readme) {
        List<String> lines = new ArrayList<>();
        boolean inside = false;
        for (String line : readme.split("\n")) {
            if (line.startsWith("```")) {
                inside = line.equals("```java");
            } else if (inside) {
                lines.add(line);
            }
        }
        return lines;
    }

    private static void remove(Path folder) throws IOException {
        try (Stream<Path> files = Files.list(folder)) {
            for (Path file : files.toList()) {
                Files.delete(file);
            }
        }
        Files.delete(folder);
    }

    private static boolean answers(String method) {
        return !method.equals("wipe") && !method.equals("drop");
    }

    private void everyCallIsShown() {
        Set<String> shown = new HashSet<>();
        for (String line : example) {
            Matcher call = CALL.matcher(line);
            boolean matches = call.matches();
            Check.due("a call stands by itself in: " + line, line.contains("x."), matches);
            if (matches) {
                shown.add(call.group(2));
                Check.due("an answer is named in: " + line, answers(call.group(2)), call.group(3) != null);
            }
        }
        for (Method method : OneTreeTours.class.getDeclaredMethods()) {
            if (Modifier.isPublic(method.getModifiers())) {
                Check.due(method.getName() + " is shown", true, shown.contains(method.getName()));
            }
        }
    }

    private void itCompilesAsItStands() throws IOException {
        Check.due("it compiles as it stands", true, compiles("AsItStands", example));
    }

    private boolean compiles(String name, List<String> lines) throws IOException {
        JavaCompiler compiler = ToolProvider.getSystemJavaCompiler();
        Path source = folder.resolve(name + ".java");
        Files.writeString(source, HEAD.replace("NAME", name) + String.join("\n", lines) + "\n" + FOOT);
        String classes = System.getProperty("java.class.path");
        return compiler.run(null, null, null, "-cp", classes, "-d", folder.toString(), source.toString()) == 0;
    }

    /** The example with each call that answers turned into one that notes the answer. */
    private List<String> noted() {
        List<String> lines = new ArrayList<>();
        for (int k = 0; k < example.size(); k++) {
            Matcher call = CALL.matcher(example.get(k));
            boolean answering = call.matches() && answers(call.group(2));
            lines.add(answering ? "note(" + k + ", " + call.group(1) + ");" : example.get(k));
        }
        return lines;
    }

    private void eachAnswerIsGiven() throws Exception {
        Check.due("it compiles with notes", true, compiles("Noted", noted()));
        List<Object[]> given = run("Noted");
        boolean[] reached = new boolean[example.size()];
        for (Object[] note : given) {
            int line = (Integer) note[0];
            reached[line] = true;
            Matcher call = CALL.matcher(example.get(line));
            String named = call.matches() ? call.group(3) : "";
            Check.due(example.get(line).strip(), meant(named), String.valueOf(note[1]));
        }
        int more = 0;
        for (int k = 0; k < example.size(); k++) {
            Matcher call = CALL.matcher(example.get(k));
            if (call.matches() && answers(call.group(2))) {
                Check.due("this call is made: " + example.get(k), true, reached[k]);
            } else if (call.matches()) {
                more++;
            }
        }
        Check.due("calls of the example, at most 512", true, given.size() + more <= 512);
    }

    private static String meant(String named) {
        if ("BAD".equals(named)) {
            return String.valueOf(OneTreeTours.BAD);
        }
        return "NONE".equals(named) ? String.valueOf(OneTreeTours.NONE) : named;
    }

    @SuppressWarnings("unchecked")
    private List<Object[]> run(String name) throws Exception {
        URL[] places = {folder.toUri().toURL()};
        try (URLClassLoader loader = new URLClassLoader(places)) {
            Class<?> made = loader.loadClass(name);
            made.getMethod("main", String[].class).invoke(null, (Object) new String[0]);
            return (List<Object[]>) made.getField("GIVEN").get(null);
        }
    }

    private static void everyTestIsNamed(String readme) throws IOException {
        try (Stream<Path> files = Files.list(Path.of("src/test/java"))) {
            for (Path file : files.toList()) {
                String name = file.getFileName().toString().replace(".java", "");
                Check.due("README.md names " + name, true, readme.contains("`" + name + "`"));
            }
        }
    }
}
