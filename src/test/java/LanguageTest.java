import java.nio.file.Files;
import java.nio.file.Path;
import java.util.regex.Matcher;
import java.util.regex.Pattern;

/** What can be seen of LANGUAGE.md's rules in the source's own lines. */
public final class LanguageTest {
    private static final Path SOURCE = Path.of("src/main/java/NibbleTrunk.java");
    private static final String[] FORBIDDEN = {
        "\\b(throw|throws|try|catch|finally|synchronized|assert|package|import|native|volatile)\\b",
        "->", "::", "\\bstatic\\s*\\{", "\\b(equals|hashCode|toString)\\s*\\(", "\\w+Exact\\s*\\(",
        "\\b(Object|Map|Set|Thread|Random|Runtime|Class)\\b", "\\bSystem\\.(?!arraycopy\\b)", "@"};
    private static final Pattern HEAD =
            Pattern.compile("^ {4,8}(?!for|if|while|switch|else)(?:(?:public|private|static|final) )*(?:\\w+(?:\\[\\])*) ?\\w*\\((.*)\\) \\{$");
    private static int wrong = 0;

    public static void main(String[] args) throws Exception {
        String[] lines = withoutComments(Files.readString(SOURCE)).split("\n", -1);
        checkTokens(lines);
        checkMethods(lines);
        checkRoom(lines);
        System.out.println(wrong == 0 ? "the source keeps to the rules" : wrong + " lines break a rule");
        if (wrong != 0) System.exit(1);
    }

    private static void breaks(String rule, int line, String text) {
        wrong++;
        System.out.println("line " + (line + 1) + " breaks " + rule + ": " + text.strip());
    }

    private static String withoutComments(String source) {
        Matcher m = Pattern.compile("/\\*.*?\\*/|//[^\n]*", Pattern.DOTALL).matcher(source);
        return m.replaceAll(r -> r.group().replaceAll("[^\n]", ""));
    }

    private static void checkTokens(String[] lines) {
        for (int i = 0; i < lines.length; i++) {
            for (String forbidden : FORBIDDEN) {
                if (Pattern.compile(forbidden).matcher(lines[i]).find()) breaks(forbidden, i, lines[i]);
            }
        }
    }

    private static void checkMethods(String[] lines) {
        int methods = 0;
        for (int i = 0; i < lines.length; i++) {
            Matcher m = HEAD.matcher(lines[i]);
            if (!m.matches()) continue;
            methods++;
            if (m.group(1).split(",").length > 7) breaks("seven parameters", i, lines[i]);
            String end = " ".repeat(lines[i].indexOf(lines[i].strip())) + "}";
            int last = i;
            while (last < lines.length && !lines[last].equals(end)) last++;
            if (last - i > 60) breaks("sixty lines", i, lines[i]);
        }
        if (methods < 34) breaks("the count of methods seen", 0, "" + methods);
    }

    /** Room is made with the object alone: in fields and constructors, not in calls. */
    private static void checkRoom(String[] lines) {
        boolean inConstructor = false;
        for (int i = 0; i < lines.length; i++) {
            if (lines[i].matches("\\s+(public )?(NibbleTrunk|Shelf)\\(.*\\) \\{")) inConstructor = true;
            else if (HEAD.matcher(lines[i]).matches()) inConstructor = false;
            boolean field = lines[i].matches("\\s+(private |final )+[^(]* = new .*;");
            if (lines[i].matches(".*\\bnew\\b.*") && !inConstructor && !field) breaks("room made once", i, lines[i]);
        }
    }
}
