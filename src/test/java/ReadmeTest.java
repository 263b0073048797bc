import java.lang.reflect.Method;
import java.lang.reflect.Modifier;
import java.net.URL;
import java.net.URLClassLoader;
import java.nio.file.Files;
import java.nio.file.Path;
import java.util.ArrayList;
import java.util.List;
import java.util.regex.Matcher;
import java.util.regex.Pattern;
import javax.tools.JavaCompiler;
import javax.tools.ToolProvider;

/** The examples of README.md compile, and each call answers the number that stands behind it. */
public final class ReadmeTest {
    private static final Pattern BLOCK = Pattern.compile("```java\n(.*?)```", Pattern.DOTALL);
    private static final Pattern CALL = Pattern.compile("(?m)^(x\\.\\w+\\(.*\\)); +// (-?\\d+)(?::.*)?$");
    private static int answers = 0;
    private static int wrong = 0;

    public static void main(String[] args) throws Exception {
        String page = Files.readString(Path.of("README.md"));
        List<String> blocks = new ArrayList<>();
        Matcher m = BLOCK.matcher(page);
        while (m.find()) blocks.add(m.group(1));
        checkLines(blocks);
        checkCalls(String.join("", blocks));
        runAll(blocks);
        if (answers < 60) fail("only " + answers + " answers were seen");
        System.out.println(answers + " answers, " + wrong + " are not as due");
        if (wrong != 0) System.exit(1);
    }

    private static void fail(String what) {
        wrong++;
        System.out.println("README.md: " + what);
    }

    /** Called by the examples, once they are compiled. */
    public static void due(String call, long got, long want) {
        answers++;
        if (got != want) fail(call + " answers " + got + ", not " + want);
    }

    /** A line whose number can't be read would go by unseen. */
    private static void checkLines(List<String> blocks) {
        for (String block : blocks) {
            for (String line : block.split("\n")) {
                if (line.contains("//") && !CALL.matcher(line).matches()) fail("no number behind: " + line);
                if (line.startsWith("x.") && !line.contains("//")) fail("no answer behind: " + line);
            }
        }
    }

    private static void checkCalls(String examples) {
        for (Method method : NibbleTrunk.class.getDeclaredMethods()) {
            if (!Modifier.isPublic(method.getModifiers())) continue;
            String call = "x." + method.getName() + "(";
            if (!examples.contains(call)) fail("no example of " + call + ")");
        }
    }

    private static String program(List<String> blocks) {
        StringBuilder s = new StringBuilder("public final class Examples {\n");
        for (int b = 0; b < blocks.size(); b++) {
            String body = CALL.matcher(blocks.get(b)).replaceAll(
                    r -> Matcher.quoteReplacement("ReadmeTest.due(\"" + r.group(1) + "\", " + r.group(1) + ", " + r.group(2) + "L);"));
            s.append("static void block").append(b).append("() {\n").append(body).append("}\n");
        }
        s.append("public static void main(String[] args) {\n");
        for (int b = 0; b < blocks.size(); b++) s.append("block").append(b).append("();\n");
        return s.append("}\n}\n").toString();
    }

    private static void runAll(List<String> blocks) throws Exception {
        Path home = Files.createTempDirectory("readme");
        Path source = Files.writeString(home.resolve("Examples.java"), program(blocks));
        JavaCompiler compiler = ToolProvider.getSystemJavaCompiler();
        int failed = compiler == null ? -1 : compiler.run(null, null, null,
                "-cp", System.getProperty("java.class.path"), "-d", home.toString(), source.toString());
        if (failed != 0) {
            fail("the examples do not compile");
        } else {
            try (URLClassLoader loader = new URLClassLoader(new URL[] {home.toUri().toURL()})) {
                loader.loadClass("Examples").getMethod("main", String[].class).invoke(null, (Object) new String[0]);
            }
        }
        for (String name : new String[] {"Examples.class", "Examples.java", "."}) {
            Files.deleteIfExists(home.resolve(name).normalize());
        }
    }
}
