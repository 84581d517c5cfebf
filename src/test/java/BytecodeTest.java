import java.io.File;
import java.io.IOException;
import java.io.PrintWriter;
import java.io.StringWriter;
import java.nio.file.Files;
import java.nio.file.Path;
import java.util.ArrayList;
import java.util.HashMap;
import java.util.List;
import java.util.Map;
import java.util.Set;
import java.util.TreeSet;
import java.util.regex.Matcher;
import java.util.regex.Pattern;
import java.util.spi.ToolProvider;
import java.util.stream.Stream;

/**
 * Rules of LANGUAGE.md that the compiled program can tell: which library it calls, how deep its
 * calls go, that none of them comes back to itself, and that only constructors make objects.
 */
public final class BytecodeTest {
    private static final Set<String> LIBRARY = Set.of(
            "java/lang/Object.<init>", "java/lang/String.length", "java/lang/String.charAt",
            "java/lang/Math.abs", "java/lang/System.arraycopy", "java/util/Arrays.fill");
    private static final Set<String> RULED_OUT = Set.of(
            "invokedynamic", "invokeinterface", "athrow", "monitorenter", "monitorexit", "checkcast",
            "instanceof", "idiv", "irem", "ldiv", "lrem", "putstatic", "multianewarray");
    private static final Set<String> MAKING = Set.of("new", "newarray", "anewarray");
    private static final int DEEPEST = 8;

    private static final Pattern CLASS = Pattern.compile("(?:\\w+ )*class ([\\w$]+) .*");
    private static final Pattern METHOD = Pattern.compile("  (?:[\\w\\[\\]]+ )*([\\w$]+)\\(.*\\);");
    private static final Pattern STEP = Pattern.compile(" +[0-9]+: (\\w+)(?: .*)?");
    private static final Pattern CALLED =
            Pattern.compile(".*// (?:Interface)?Method (?:([\\w$/]+)\\.)?\"?([\\w<>$]+)\"?:.*");

    private final Map<String, Set<String>> calls = new HashMap<>();
    private String type = "";
    private String method = "";

    public static void main(String[] args) throws IOException {
        BytecodeTest test = new BytecodeTest();
        for (String line : test.listing().split("\\R")) {
            test.read(line);
        }
        Check.due("methods were found", true, test.calls.size() > 80);
        for (String name : new TreeSet<>(test.calls.keySet())) {
            int depth = test.depth(name, 0);
            Check.due("calls open at once from " + name + ", at most 8: " + depth, true, depth <= DEEPEST);
        }
        Check.finish();
    }

    /** What javap tells of the class and of those inside it. */
    private String listing() throws IOException {
        List<String> wanted = new ArrayList<>(List.of("-c", "-p"));
        for (String place : System.getProperty("java.class.path").split(File.pathSeparator)) {
            try (Stream<Path> files = Files.list(Path.of(place))) {
                files.map(Path::toString)
                        .filter(name -> name.matches(".*[/\\\\]OneTreeTours(\\$.*)?\\.class"))
                        .forEach(wanted::add);
            }
        }
        StringWriter told = new StringWriter();
        PrintWriter writer = new PrintWriter(told);
        int answer = ToolProvider.findFirst("javap").orElseThrow()
                .run(writer, writer, wanted.toArray(new String[0]));
        Check.due("javap", 0, answer);
        return told.toString();
    }

    private void read(String line) {
        Matcher newType = CLASS.matcher(line);
        Matcher newMethod = METHOD.matcher(line);
        Matcher step = STEP.matcher(line);
        if (newType.matches()) {
            type = newType.group(1);
        } else if (newMethod.matches()) {
            String name = newMethod.group(1);
            method = type + "." + (name.equals(type) ? "<init>" : name);
            Check.due("two methods are " + method, false, calls.containsKey(method));
            calls.put(method, new TreeSet<>());
        } else if (step.matches()) {
            look(step.group(1), line);
        }
    }

    private void look(String step, String line) {
        Check.due(step + " in " + method, false, RULED_OUT.contains(step));
        boolean floating = step.matches("(?!dup)[fd][a-z]+(_.)?|[il]2[fd]");
        Check.due(step + " of a float or a double in " + method, false, floating);
        boolean making = MAKING.contains(step) && !method.endsWith(".<init>");
        Check.due("something is made in " + method, false, making);
        if (step.startsWith("invoke")) {
            Matcher called = CALLED.matcher(line);
            Check.due("a call of a method: " + line, true, called.matches());
            String owner = called.group(1) == null ? type : called.group(1);
            call(owner + "." + called.group(2));
        }
    }

    private void call(String called) {
        calls.get(method).add(called);
        boolean own = called.startsWith("OneTreeTours");
        Check.due(called + " in " + method + " is of the library", true, own || LIBRARY.contains(called));
    }

    /** How many calls stand open at once; a method that comes back to itself goes too deep. */
    private int depth(String name, int above) {
        int most = 0;
        for (String called : calls.getOrDefault(name, Set.of())) {
            if (above <= DEEPEST) {
                most = Math.max(most, depth(called, above + 1));
            }
        }
        return most + 1;
    }
}
