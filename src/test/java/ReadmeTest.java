import java.lang.reflect.Method;
import java.net.URL;
import java.net.URLClassLoader;
import java.nio.file.Files;
import java.nio.file.Path;
import java.util.ArrayList;
import java.util.List;
import java.util.regex.Matcher;
import java.util.regex.Pattern;
import javax.tools.JavaCompiler;
import javax.tools.ToolProvider;

/** The Java of README.md, compiled and run as it stands there: each call answers what its remark says. */
public final class ReadmeTest {
    private static final Checks c = new Checks();
    private static final Pattern BLOCK = Pattern.compile("(?s)```java\n(.*?)```");
    private static final Pattern ASKED =
            Pattern.compile("(x\\.\\w+\\(.*\\));\\s*// (-?\\d+|true|false|NoSuchElementException)\\b.*");
    private static final String NO_SUCH = "NoSuchElementException";
    /** The calls of promises 2 to 33: the page shows each of them. */
    private static final String[] SHOWN = {"feed", "town", "years", "house", "order", "ahead", "pressed", "blot", "put",
        "road", "run", "sell", "undo", "judged", "shunned", "best", "around", "till", "dry", "hear", "sets", "look", "see",
        "orders", "first", "ask", "share", "pin", "rests", "decades", "mark", "count"};

    public static void main(String[] args) throws Exception {
        String page = Files.readString(Path.of("README.md"));
        String source = sourceOf(page);
        for (String call : SHOWN) {
            c.due("README shows " + call, source.contains("x." + call + "("), true);
        }
        c.due("README says how to run the tests", page.contains(".ci/run"), true);
        run(source);
        c.end();
    }

    /** A class of all blocks: those that are methods stand by themselves, the others follow one another. */
    private static String sourceOf(String page) {
        List<String> methods = new ArrayList<>();
        List<String> steps = new ArrayList<>();
        Matcher block = BLOCK.matcher(page);
        while (block.find()) {
            boolean ofMethods = block.group(1).startsWith("static ");
            for (String line : block.group(1).split("\n")) {
                if (ofMethods) {
                    methods.add(line);
                } else {
                    steps.add(stepOf(line));
                }
            }
        }
        return "import java.util.NoSuchElementException;\npublic class ReadmePage {\n" + String.join("\n", methods)
                + "\npublic static void walk(java.util.List<String> out) {\n" + String.join("\n", steps) + "\n}\n}\n";
    }

    /** A line of the page; of a call with an answer one that says call, answer and what is due. */
    private static String stepOf(String line) {
        Matcher asked = ASKED.matcher(line);
        if (!asked.matches()) {
            return line;
        }
        String call = asked.group(1);
        return "{ String got; try { got = \"\" + " + call + "; } catch (NoSuchElementException e) { got = \"" + NO_SUCH
                + "\"; }\nout.add(\"" + call + "\"); out.add(got); out.add(\"" + asked.group(2) + "\"); }";
    }

    private static void run(String source) throws Exception {
        Path folder = Files.createTempDirectory("readme");
        Path file = folder.resolve("ReadmePage.java");
        Files.writeString(file, source);
        JavaCompiler compiler = ToolProvider.getSystemJavaCompiler();
        c.due("there is a compiler", compiler != null, true);
        int compiled = compiler == null ? 1 : compiler.run(null, null, null, "-d", folder.toString(),
                "-cp", System.getProperty("java.class.path"), file.toString());
        c.due("README's Java compiles", compiled, 0);
        if (compiled == 0) {
            compare(folder);
        }
        Files.deleteIfExists(folder.resolve("ReadmePage.class"));
        Files.delete(file);
        Files.delete(folder);
    }

    private static void compare(Path folder) throws Exception {
        List<String> out = new ArrayList<>();
        try (URLClassLoader loader = new URLClassLoader(new URL[] {folder.toUri().toURL()})) {
            Method walk = loader.loadClass("ReadmePage").getMethod("walk", List.class);
            walk.invoke(null, out);
        }
        c.due("README has answers", out.size() >= 3 * SHOWN.length, true);
        for (int i = 0; i + 2 < out.size(); i += 3) {
            String told = "README: " + out.get(i) + " answered " + out.get(i + 1) + ", told is " + out.get(i + 2);
            c.due(told, out.get(i + 1).equals(out.get(i + 2)), true);
        }
    }
}
