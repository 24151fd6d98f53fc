import java.io.IOException;
import java.lang.reflect.Method;
import java.lang.reflect.Modifier;
import java.nio.charset.StandardCharsets;
import java.nio.file.Files;
import java.nio.file.Path;
import java.util.TreeSet;
import java.util.regex.Matcher;
import java.util.regex.Pattern;

/** The example of README.md answers as it says there, and every call of the face is told; run from the project's root. */
public final class ReadmeTest {
    private static final Pattern MAKING = Pattern.compile("EdgeCache x = new EdgeCache\\((-?\\d+)\\);");
    private static final Pattern CALL =
            Pattern.compile("x\\.(\\w+)\\(([^)]*)\\); +// (\\S+)(?: +\"([^\"]*)\")?");

    private final Kit kit = new Kit();
    private final TreeSet<String> called = new TreeSet<>();
    private EdgeCache x;

    public static void main(String[] args) throws IOException, ReflectiveOperationException {
        String readme = Files.readString(Path.of("README.md"));
        ReadmeTest test = new ReadmeTest();
        test.dueExample(readme);
        test.dueFace(readme);
        test.kit.end();
    }

    private void dueExample(String readme) throws ReflectiveOperationException {
        Matcher example = Pattern.compile("(?s)```java\n(.*?)```").matcher(readme);
        int examples = 0;
        while (example.find()) {
            examples++;
            for (String line : example.group(1).split("\n")) {
                dueLine(line);
            }
        }
        kit.due("the examples of README.md", examples, 1);
    }

    private void dueLine(String line) throws ReflectiveOperationException {
        Matcher making = MAKING.matcher(line);
        Matcher call = CALL.matcher(line);
        if (making.matches()) {
            x = new EdgeCache(Integer.parseInt(making.group(1)));
        } else if (call.matches() && x != null) {
            dueCall(line, call);
        } else if (!line.isEmpty() && !line.startsWith("// ")) {
            kit.due("reading '" + line + "'", "nothing", "a call and its answer");
        }
    }

    private void dueCall(String line, Matcher call) throws ReflectiveOperationException {
        called.add(call.group(1));
        String[] values = call.group(2).isEmpty() ? new String[0] : call.group(2).split(", ");
        Method method = methodNamed(call.group(1));
        Object[] arguments = new Object[values.length];
        for (int i = 0; i < values.length; i++) {
            long number = number(values[i]);
            // Not by ?: , which would make a long of both.
            if (method.getParameterTypes()[i] == long.class) {
                arguments[i] = number;
            } else {
                arguments[i] = (int) number;
            }
        }
        Object answer = method.invoke(x, arguments);
        kit.due(line, answer instanceof Number got ? (Object) got.longValue() : answer, due(call.group(3)));
        if (call.group(4) != null) {
            String told = call.group(1).equals("feed") ? values[1] : call.group(3);
            kit.due("the bytes of " + line, number(told), numberOf(call.group(4)));
        }
    }

    private static Method methodNamed(String name) throws NoSuchMethodException {
        for (Method method : EdgeCache.class.getDeclaredMethods()) {
            if (Modifier.isPublic(method.getModifiers()) && method.getName().equals(name)) {
                return method;
            }
        }
        throw new NoSuchMethodException(name);
    }

    private static Object due(String told) {
        if (told.equals("true") || told.equals("false")) {
            return Boolean.valueOf(told);
        }
        return number(told);
    }

    private static long number(String told) {
        if (told.equals("NONE")) {
            return EdgeCache.NONE;
        }
        return told.startsWith("0x") ? Long.parseUnsignedLong(told.substring(2, told.length() - 1), 16) : Long.parseLong(told);
    }

    private static long numberOf(String quoted) {
        long number = 0;
        for (byte next : quoted.replace("\\n", "\n").getBytes(StandardCharsets.ISO_8859_1)) {
            number = number << 8 | next & 255;
        }
        return number;
    }

    /** Each public member has a row in the table, told as the document writes it, and each method a call in the example. */
    private void dueFace(String readme) throws IOException {
        String document = Files.readString(Path.of("../shared/DOC.md"));
        Matcher member = Pattern.compile("(?m)^    public ((?:\\w+ )?\\w+\\(.*?\\));").matcher(document);
        int members = 0;
        while (member.find()) {
            members++;
            kit.due("a row for " + member.group(1), readme.contains("\n| `" + member.group(1) + "` |"), true);
        }
        kit.due("the constructor and methods of the document", members, 15);
        for (Method method : EdgeCache.class.getDeclaredMethods()) {
            if (Modifier.isPublic(method.getModifiers())) {
                kit.due("a call of " + method.getName() + " in the example", called.contains(method.getName()), true);
            }
        }
    }
}
