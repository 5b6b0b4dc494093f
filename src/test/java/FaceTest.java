import java.nio.file.Files;
import java.nio.file.Path;
import java.util.ArrayList;
import java.util.List;
import java.util.regex.Matcher;
import java.util.regex.Pattern;

/** "The public face" and what the interface says ahead of the calls, as DOC.md has them, against the text of the class. */
public final class FaceTest {
    private static final Pattern PUBLIC_LINE = Pattern.compile("    (public .*\\)) \\{");
    private static final Pattern HEADING = Pattern.compile("    // (---- .*)");
    private static final Pattern TOLD_HEADING = Pattern.compile("Ahead of the calls (.*) the interface says: (.*)\\.");
    private static final String OWN_HEADING = "---- what the calls share";

    private static int wrong = 0;

    public static void main(String[] args) throws Exception {
        String doc = Files.readString(Path.of(System.getProperty("doc", "../shared/DOC.md")));
        String source = Files.readString(Path.of(System.getProperty("source", "src/main/java/ValveRiver.java")));
        is("the public face", face(source), toldFace(doc));
        is("the headings of the interface", headings(source), toldHeadings(doc));
        is("a promise for each of the face", toldPromises(doc), toldFace(doc).subList(1, toldFace(doc).size()));
        System.out.println(wrong + " parts of the face are not as told");
        if (wrong != 0) {
            System.exit(1);
        }
    }

    private static void is(String what, List<String> got, List<String> due) {
        if (!got.equals(due) || due.isEmpty()) {
            wrong++;
            System.out.println(what + ": " + got + ", due is " + due);
        }
    }

    private static List<String> face(String source) {
        List<String> lines = new ArrayList<>();
        for (String line : source.split("\n")) {
            Matcher m = PUBLIC_LINE.matcher(line);
            if (m.matches()) {
                lines.add(m.group(1));
            }
        }
        return lines;
    }

    private static List<String> toldFace(String doc) {
        List<String> lines = new ArrayList<>();
        Matcher m = Pattern.compile("\n    (public .*\\));").matcher(doc);
        while (m.find()) {
            lines.add(m.group(1));
        }
        return lines;
    }

    private static List<String> toldPromises(String doc) {
        List<String> lines = new ArrayList<>();
        Matcher m = Pattern.compile("\n`((?:int|long) \\w+\\(.*?\\))`: ").matcher(doc);
        while (m.find()) {
            lines.add("public " + m.group(1));
        }
        return lines;
    }

    /** Each heading with the calls behind it. */
    private static List<String> headings(String source) {
        List<String> lines = new ArrayList<>();
        String heading = "";
        StringBuilder calls = new StringBuilder();
        for (String line : source.split("\n")) {
            Matcher m = HEADING.matcher(line);
            Matcher call = Pattern.compile("    public (?:int|long) (\\w+)\\(.*").matcher(line);
            if (m.matches()) {
                if (!heading.isEmpty()) {
                    lines.add(heading + ":" + calls);
                }
                heading = m.group(1);
                calls.setLength(0);
            } else if (call.matches()) {
                calls.append(' ').append(call.group(1));
            }
        }
        if (!heading.equals(OWN_HEADING)) {
            lines.add(heading + ":" + calls);
        }
        return lines;
    }

    private static List<String> toldHeadings(String doc) {
        List<String> lines = new ArrayList<>();
        Matcher m = TOLD_HEADING.matcher(doc);
        while (m.find()) {
            lines.add(m.group(2) + ": " + m.group(1).replace("`", "").replace(",", ""));
        }
        return lines;
    }
}
