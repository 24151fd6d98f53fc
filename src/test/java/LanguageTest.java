import java.io.IOException;
import java.nio.file.Files;
import java.nio.file.Path;
import java.util.regex.Matcher;
import java.util.regex.Pattern;

/** Rules of LANGUAGE.md that can be seen in the text of the program; run from the project's root. */
public final class LanguageTest {
    private static final String[] FORBIDDEN = {
        "\\b(throw|throws|try|catch|synchronized|assert|package|new Object|hashCode|toString\\(\\) \\{)\\b",
        "->", "::", "\" \\+ |\\+ \"", "\\bString\\[", "\\[\\]\\[\\]\\[", "Exact\\(", "\\bstatic \\{", "\\bprotected\\b", "import (?!java\\.util\\.ArrayList;)",
        "(?m)^    static (?!final class)", "\\bstatic (?!final)(\\w+) \\w+( =|;)"};

    public static void main(String[] args) throws IOException {
        Kit kit = new Kit();
        String program = Files.readString(Path.of("src/main/java/EdgeCache.java"));
        String code = program.replaceAll("(?s)/\\*.*?\\*/", "").replaceAll("//.*", "");
        for (String rule : FORBIDDEN) {
            Matcher found = Pattern.compile(rule).matcher(code);
            kit.due("looking for " + rule, found.find() ? found.group() : "nothing", "nothing");
        }
        kit.due("at most twelve classes", code.split("\\bclass \\w+ \\{").length - 1 <= 12, true);
        Matcher method = Pattern.compile("(?m)^( {4}| {8})(?! )[\\w\\[\\]<> ]+ (\\w+)\\(([^)]*)\\) \\{\\n(?s:(.*?))\\n\\1\\}").matcher(code);
        while (method.find()) {
            kit.due("lines of " + method.group(2), method.group(4).split("\n").length <= 60, true);
            kit.due("parameters of " + method.group(2), method.group(3).split(",").length <= 7, true);
        }
        dueLoopEnds(kit, code);
        kit.end();
    }

    /** Rule 9: the end of a loop shows in its own lines: each counts there (or goes over an array), none leaves that to a method. */
    private static void dueLoopEnds(Kit kit, String code) {
        Matcher loop = Pattern.compile("(?m)^( +)(while|for) \\((.*)\\) \\{\\n(?s:(.*?))\\n\\1\\}").matcher(code);
        for (int from = 0; loop.find(from); from = loop.end(3)) {
            String own = loop.group(2).equals("for") ? loop.group(3) : loop.group(4);
            boolean counts = Pattern.compile("\\w(\\+\\+|--)|\\w [+-]= \\d|\\w : \\w").matcher(own).find();
            kit.due("the counter of " + loop.group(2) + " (" + loop.group(3) + ")", counts, true);
        }
    }
}
