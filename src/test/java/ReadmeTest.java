import java.lang.reflect.Method;
import java.lang.reflect.Modifier;
import java.nio.file.Files;
import java.nio.file.Path;
import java.util.List;
import java.util.Set;
import java.util.TreeSet;
import java.util.regex.Matcher;
import java.util.regex.Pattern;
import java.util.stream.Stream;

/** README.md: its examples answer what it says, and the calls and tests that it names are those that there are. */
public final class ReadmeTest {
    private static final Check check = new Check("ReadmeTest");
    private static final Pattern CALL = Pattern.compile("x\\.(\\w+)\\(([^)]*)\\);\\s*// (-?\\d+|true|false)\\b.*");

    public static void main(String[] args) throws Exception {
        String page = Files.readString(Path.of(args.length > 0 ? args[0] : "README.md"));
        examples(page.lines().toList());
        calls(page);
        tests(page);
        check.finish();
    }

    /** A block of text is the one that write(x, text) puts into the object behind it. */
    private static void examples(List<String> lines) throws Exception {
        String helpers = Files.readString(Path.of("src/test/java/Check.java"));
        StringBuilder text = new StringBuilder();
        Set<String> run = new TreeSet<>();
        LitWindows x = null;
        String kind = "";
        for (String line : lines) {
            if (line.startsWith("```")) {
                kind = kind.isEmpty() ? line : "";
                if (kind.equals("```text")) text.setLength(0);
            } else if (kind.equals("```text")) {
                text.append(line).append('\n');
            } else if (kind.equals("```java")) {
                Matcher call = CALL.matcher(line);
                if (line.equals("LitWindows x = new LitWindows();")) x = new LitWindows();
                else if (line.startsWith("write(x, text);")) Check.write(x, text.toString());
                else if (call.matches()) run.add(ask(x, line, call));
                else check.due("a line of Check.java: " + line, helpers.contains(line), true);
            }
        }
        check.due("calls with examples " + run, run.size(), names().size());
    }

    private static String ask(LitWindows x, String line, Matcher call) throws Exception {
        for (Method m : LitWindows.class.getMethods()) {
            if (!m.getName().equals(call.group(1))) continue;
            String[] told = call.group(2).isEmpty() ? new String[0] : call.group(2).split(", ");
            Object[] values = new Object[told.length];
            for (int i = 0; i < told.length; i++) {
                values[i] = m.getParameterTypes()[i] == boolean.class ? (Object) Boolean.valueOf(told[i]) : (Object) Integer.valueOf(told[i]);
            }
            String got = String.valueOf(m.invoke(x, values));
            check.due(line + " (answered " + got + ")", got.equals(call.group(3)), true);
            return m.getName();
        }
        check.due("a call of the face: " + line, false, true);
        return "";
    }

    /** The table has a row for each call with as many arguments as it takes. */
    private static void calls(String page) {
        for (Method m : LitWindows.class.getDeclaredMethods()) {
            if (!Modifier.isPublic(m.getModifiers())) continue;
            Matcher row = Pattern.compile("(?m)^\\| `" + m.getName() + "\\(([^)]*)\\)` \\|").matcher(page);
            boolean found = row.find();
            check.due("a row for " + m.getName(), found, true);
            int told = !found || row.group(1).isEmpty() ? 0 : row.group(1).split(", ").length;
            check.due("arguments told of " + m.getName(), told, m.getParameterCount());
        }
    }

    private static void tests(String page) throws Exception {
        Set<String> named = new TreeSet<>();
        Matcher name = Pattern.compile("`(\\w+Test)`").matcher(page);
        while (name.find()) named.add(name.group(1));
        Set<String> there = new TreeSet<>();
        try (Stream<Path> files = Files.list(Path.of("src/test/java"))) {
            files.map(f -> f.getFileName().toString()).filter(f -> f.endsWith("Test.java")).forEach(f -> there.add(f.replace(".java", "")));
        }
        check.due("tests named " + named + " are " + there, named.equals(there), true);
    }

    private static Set<String> names() {
        Set<String> names = new TreeSet<>();
        for (Method m : LitWindows.class.getDeclaredMethods()) {
            if (Modifier.isPublic(m.getModifiers())) names.add(m.getName());
        }
        return names;
    }
}
