import java.lang.reflect.Constructor;
import java.lang.reflect.Field;
import java.lang.reflect.Method;
import java.lang.reflect.Modifier;
import java.nio.file.Files;
import java.nio.file.Path;
import java.util.ArrayList;
import java.util.Arrays;
import java.util.List;
import java.util.Set;
import java.util.TreeSet;
import java.util.regex.Matcher;
import java.util.regex.Pattern;

/** The public face, and those rules of LANGUAGE.md that can be seen in the text or in the classes. */
public final class LanguageTest {
    private static final String FACE = String.join(" ",
        "level:2 stands:1 plan:2 opening:1 steady:1 watcher:2 of:2 change:3 go:1 now:1 ahead:2 belief:3 when:1",
        "first:0 reaches:2 range:3 enough:1 hide:2 safe:2 sleep:1 turns:0 seat:2 kindFor:2 wantFor:2 watch:1",
        "fits:3 opened:3 kinds:2 nights:1 odds:2 seed:1 feed:2 wipe:0 text:0 hold:2 as:2 sheet:3 write:3 copy:5",
        "load:1 judge:1 image:0 undo:0 tear:0 count:1 status:1");

    private static int wrong = 0;

    public static void main(String[] args) throws Exception {
        face();
        nested();
        text();
        System.out.println(wrong + " rules broken");
        if (wrong != 0) {
            System.exit(1);
        }
    }

    private static void holds(String rule, boolean is) {
        if (!is) {
            wrong++;
            System.out.println("broken: " + rule);
        }
    }

    private static void face() {
        Class<?> c = ValveRiver.class;
        holds("the class is public and final", Modifier.isPublic(c.getModifiers()) && Modifier.isFinal(c.getModifiers()));
        Constructor<?>[] made = c.getDeclaredConstructors();
        holds("one public constructor", made.length == 1 && Modifier.isPublic(made[0].getModifiers())
            && made[0].getParameterCount() == 0);
        Set<String> due = new TreeSet<>(Arrays.asList(FACE.split(" ")));
        Set<String> there = new TreeSet<>();
        for (Method m : c.getDeclaredMethods()) {
            if (Modifier.isPublic(m.getModifiers())) {
                there.add(m.getName() + ":" + m.getParameterCount());
                Class<?> answer = m.getName().equals("odds") ? long.class : int.class;
                holds("what " + m.getName() + " answers", m.getReturnType() == answer);
                for (Class<?> type : m.getParameterTypes()) {
                    holds("what " + m.getName() + " takes", type == int.class);
                }
                holds(m.getName() + " isn't static", !Modifier.isStatic(m.getModifiers()));
            } else {
                holds(m.getName() + " is private", Modifier.isPrivate(m.getModifiers()));
            }
        }
        holds("the face: " + there, there.equals(due));
        for (Field f : c.getDeclaredFields()) {
            holds(f.getName() + " is private", Modifier.isPrivate(f.getModifiers()));
        }
    }

    private static void nested() {
        List<Class<?>> all = new ArrayList<>(Arrays.asList(ValveRiver.class.getDeclaredClasses()));
        holds("at most some twelve classes", all.size() < 12);
        Set<String> names = new TreeSet<>();
        for (String method : FACE.split(" ")) {
            names.add(method.substring(0, method.indexOf(':')));
        }
        for (Class<?> c : all) {
            holds(c.getName() + " is static", Modifier.isStatic(c.getModifiers()));
            for (Method m : c.getDeclaredMethods()) {
                holds(c.getName() + "." + m.getName() + " has a name of its own", !names.contains(m.getName()));
            }
        }
        for (Method m : ValveRiver.class.getDeclaredMethods()) {
            holds(m.getName() + " is public, or has a name of its own",
                Modifier.isPublic(m.getModifiers()) || !names.contains(m.getName()));
        }
        all.add(ValveRiver.class);
        for (Class<?> c : all) {
            int fields = 0;
            for (Field f : c.getDeclaredFields()) {
                boolean isStatic = Modifier.isStatic(f.getModifiers());
                fields += isStatic ? 0 : 1;
                holds(f.getName() + ": a static one is a final number", !isStatic
                    || (Modifier.isFinal(f.getModifiers()) && f.getType() == int.class));
            }
            holds(c.getName() + " has few fields", fields <= 20);
            for (Method m : c.getDeclaredMethods()) {
                holds(m.getName() + " takes at most seven", m.getParameterCount() <= 7);
            }
        }
    }

    private static void text() throws Exception {
        String source = Files.readString(Path.of(System.getProperty("source", "src/main/java/ValveRiver.java")));
        String code = source.replaceAll("(?s)/\\*.*?\\*/", "").replaceAll("//[^\n]*", "");
        for (String word : new String[] {"throw", "throws", "try", "catch", "synchronized", "assert", "import", "package",
            "native", "volatile", "transient", "hashCode", "toString", "getClass", "Object", "Exact", "double", "float"}) {
            holds("no " + word, !Pattern.compile("\\b\\w*" + word + "\\b").matcher(code).find());
        }
        holds("no lambda, no method reference", !code.contains("->") && !code.contains("::"));
        holds("no static block", !Pattern.compile("\\bstatic\\s*\\{").matcher(code).find());
        holds("only signs of 32 to 126", source.chars().allMatch(c -> c == '\n' || (c >= 32 && c < 127)));
        Set<String> library = new TreeSet<>();
        Matcher m = Pattern.compile("\\b(Math|Integer|Long|System|Arrays)\\.(\\w+)").matcher(code);
        while (m.find()) {
            library.add(m.group());
        }
        Set<String> allowed = Set.of("Math.abs", "Math.max", "Math.min", "Integer.bitCount",
            "Integer.numberOfTrailingZeros", "System.arraycopy");
        holds("only the library that is listed: " + library, allowed.containsAll(library));
        methodLengths(source);
        objectsAreMadeWithTheRiver(code);
    }

    /** All calls live in one room, so rows are made in fields and constructors and used again. */
    private static void objectsAreMadeWithTheRiver(String code) {
        boolean inMethod = false;
        for (String line : code.split("\n")) {
            if (line.matches("( {4}| {8})\\w.*\\) \\{")) {
                inMethod = !line.matches(" +(public )?[A-Z]\\w*\\(.*");
            } else if (line.matches("( {4}| {8})}")) {
                inMethod = false;
            }
            holds("no call makes an object: " + line.strip(), !inMethod || !line.matches(".*\\bnew\\b.*"));
        }
    }

    private static void methodLengths(String source) {
        int begin = 0;
        String[] lines = source.split("\n");
        for (int i = 0; i < lines.length; i++) {
            if (lines[i].matches("( {4}| {8})\\w.*\\) \\{")) {
                begin = i;
            } else if (lines[i].matches("( {4}| {8})}")) {
                holds("a short method at line " + (begin + 1), i - begin < 60 || lines[begin].contains("class"));
            }
        }
    }
}
