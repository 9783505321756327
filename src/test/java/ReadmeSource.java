import java.io.IOException;
import java.lang.reflect.Method;
import java.lang.reflect.Modifier;
import java.nio.file.Files;
import java.nio.file.Path;
import java.util.List;
import java.util.Set;
import java.util.TreeSet;
import java.util.regex.Matcher;
import java.util.regex.Pattern;

/**
 * Writes the source of a test, ReadmeTests, from the examples in README.md: each
 * line must answer as the comment behind it says. The arguments are README.md
 * and the file that is written.
 */
final class ReadmeSource {
    private static final String MAKE = "LimitTables x = new LimitTables();";
    private static final Pattern CALL = Pattern.compile("(x\\.(\\w+)\\([^;]*\\)); +// ([^: ]+)(:.*)?");

    private final Checks checks = new Checks();
    private final Set<String> shown = new TreeSet<>();
    private final StringBuilder source = new StringBuilder();

    public static void main(String[] args) throws IOException {
        ReadmeSource made = new ReadmeSource();
        made.write(Files.readAllLines(Path.of(args[0])));
        Files.writeString(Path.of(args[1]), made.source);
        made.checks.dueText("calls in the examples", made.shown.toString(), face().toString());
        made.checks.end("ReadmeSource");
    }

    private static Set<String> face() {
        Set<String> names = new TreeSet<>();
        for (Method method : LimitTables.class.getDeclaredMethods()) {
            if (Modifier.isPublic(method.getModifiers())) {
                names.add(method.getName());
            }
        }
        return names;
    }

    private void write(List<String> lines) {
        source.append("final class ReadmeTests {\n    public static void main(String[] args) {\n"
                + "        Checks checks = new Checks();\n        LimitTables x = null;\n");
        boolean inside = false;
        for (int at = 0; at < lines.size(); at++) {
            String line = lines.get(at);
            if (line.startsWith("```")) {
                inside = line.equals("```java");
            } else if (inside) {
                writeLine(at + 1, line);
            }
        }
        source.append("        checks.end(\"ReadmeTests\");\n    }\n}\n");
    }

    private void writeLine(int number, String line) {
        if (line.equals(MAKE)) {
            source.append("        x = new LimitTables();\n");
            return;
        }
        Matcher call = CALL.matcher(line);
        boolean matches = call.matches();
        checks.dueText("README.md, line " + number, matches ? "a call with its answer" : line, "a call with its answer");
        if (matches) {
            shown.add(call.group(2));
            source.append("        checks.dueD(\"README.md, line ").append(number).append(", ").append(call.group(2))
                    .append("\", ").append(call.group(1)).append(", ").append(answer(call.group(3))).append(");\n");
        }
    }

    private static String answer(String told) {
        if (told.equals("NaN")) {
            return "Double.NaN";
        }
        return told.matches("[A-Z_]+") ? "LimitTables." + told : told;
    }
}
