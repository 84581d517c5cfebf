import java.nio.file.Files;
import java.nio.file.Path;
import java.util.regex.Matcher;
import java.util.regex.Pattern;

/**
 * Rules of LANGUAGE.md that a look at the source can tell. It is no full check of them: it keeps
 * the plainest slips from landing.
 */
public final class LanguageTest {
    private static final String[] RULED_OUT = {
        "->", "::", "\\bfinally\\b", "\\bsynchronized\\b", "\\bassert\\b", "\\bthrow\\b", "\\btry\\b",
        "\\bpackage\\b", "\\bprotected\\b", "\\bstatic \\{", "\\bSystem\\.(?!arraycopy)", "Exact\\(",
        "\\bThread\\b", "\\bRandom\\b", "\\bMath\\.(?!abs|min|max)", "\\bdouble\\b", "\\bfloat\\b",
        "\\bObject\\b", "\\[\\]\\[\\]", "while \\(true\\)", "for \\(;;\\)", "\\bimport (?!java\\.util\\.(Arrays|ArrayList|List);)"
    };

    private static final String[] FACE = {
        "write", "wipe", "load", "size", "distance", "mark", "lift", "potential", "bound", "degree",
        "ascend", "solve", "ties", "improve", "tour", "add", "drop", "covers", "caseBound", "proves"
    };

    public static void main(String[] args) throws Exception {
        String source = Files.readString(Path.of("src/main/java/OneTreeTours.java"));
        String code = source.replaceAll("(?s)/\\*.*?\\*/", "").replaceAll("//[^\n]*", "");
        for (String ruledOut : RULED_OUT) {
            Check.due(ruledOut + " is used", 0, count(code, ruledOut));
        }
        for (String name : FACE) {
            String method = "(?m)^ +[a-z \\[\\]]*\\b(int|boolean|void|long|int\\[\\]) " + name + "\\(";
            Check.due("methods named " + name, 1, count(code, method));
        }
        Check.due("classes, at most twelve", true, count(code, "\\bclass\\b") <= 12);
        int rows = count(code, "(?m)^ +(private )?final \\w+\\[\\] \\w+ = new \\w+\\[[A-Z_ */2]+\\];$");
        int parts = count(code, "(?m)^ +\\w+ = new [A-Z]\\w+\\(\\w*\\);$");
        Check.due("what is made beside fields and constructors", 0, count(code, "\\bnew\\b") - rows - parts);
        shortMethods(code);
        Check.finish();
    }

    private static int count(String code, String pattern) {
        Matcher matcher = Pattern.compile(pattern).matcher(code);
        int found = 0;
        while (matcher.find()) {
            found++;
        }
        return found;
    }

    /** A method ends where a brace closes as deep as its head stands. */
    private static void shortMethods(String code) {
        Matcher heads = Pattern.compile("(?m)^( +)[A-Za-z][^;=\n]*\\(([^;\n]*)\\) \\{$").matcher(code);
        int found = 0;
        while (heads.find()) {
            int end = code.indexOf("\n" + heads.group(1) + "}", heads.end());
            long lines = code.substring(heads.start(), end).lines().count();
            Check.due("lines of " + heads.group().strip() + ", at most 60", true, lines <= 60);
            Check.due("parameters of it, at most 7", true, heads.group(2).split(",").length <= 7);
            found++;
        }
        Check.due("methods were found", true, found > 50);
    }
}
