import java.lang.reflect.Method;
import java.lang.reflect.Modifier;
import java.nio.file.Files;
import java.nio.file.Path;
import java.util.Set;
import java.util.TreeSet;
import java.util.regex.Matcher;
import java.util.regex.Pattern;

/**
 * Makes a test of the calls that README.md shows, and prints it: class ReadmeCalls, in the form of those under ../shared/tests.
 * In a block of java a call stands on a line of its own, and behind // its answer; other lines are taken as they are.
 * Ends with exit code 1 if a call is shown without its answer, or one of the face isn't shown at all.
 */
public final class Readme {
    private static final Pattern SHOWN = Pattern.compile(
        "\\s*(?:(int|long) (\\w+) = )?(x\\.(\\w+)\\(.*\\));\\s*// (-?\\w+)(?::.*)?");

    private final StringBuilder made = new StringBuilder();
    private final Set<String> shown = new TreeSet<>();
    private int wrong = 0;

    public static void main(String[] args) throws Exception {
        Readme readme = new Readme();
        readme.read(Files.readString(Path.of(args[0])));
        readme.allAreShown();
        System.out.println(readme.made);
        if (readme.wrong != 0) {
            System.exit(1);
        }
    }

    private void read(String text) {
        made.append("public final class ReadmeCalls {\n    public static void main(String[] args) {\n        Due due = new Due();\n");
        boolean inside = false;
        for (String line : text.split("\n")) {
            if (inside && line.equals("```")) {
                inside = false;
                made.append("}\n");
            } else if (inside) {
                take(line);
            } else if (line.equals("```java")) {
                inside = true;
                made.append("{\n");
            }
        }
        made.append("        due.end();\n    }\n}\n");
    }

    private void take(String line) {
        Matcher m = SHOWN.matcher(line);
        if (!m.matches()) {
            if (line.contains("x.")) {
                complain("no answer is told for a call: " + line);
            }
            made.append(line).append('\n');
            return;
        }
        String type = m.group(1);
        String name = m.group(2);
        String call = m.group(3);
        shown.add(m.group(4));
        if (name != null) {
            made.append(type).append(' ').append(name).append(" = ").append(call).append(";\n");
        }
        made.append("due.is(\"README.md: ").append(call.replace("\\", "\\\\").replace("\"", "\\\"")).append("\", ")
            .append(name == null ? call : name).append(", ").append(m.group(5)).append(");\n");
    }

    private void allAreShown() {
        for (Method m : ValveRiver.class.getDeclaredMethods()) {
            if (Modifier.isPublic(m.getModifiers()) && !shown.contains(m.getName())) {
                complain("README.md doesn't show " + m.getName());
            }
        }
    }

    private void complain(String what) {
        wrong++;
        System.err.println(what);
    }
}
