import java.lang.reflect.Method;
import java.util.ArrayList;
import java.util.Arrays;
import java.util.Comparator;
import java.util.List;
import java.util.Random;

/** Random runs of calls, always the same ones, on the class and on its mirror: the answers are alike. */
public final class MirrorTest {
    private static final int RUNS = 240;
    private static final int CALLS = 512;
    private static final int WRONG_SHOWN = 20;
    private static final int[] ODD = {
        Integer.MIN_VALUE, Integer.MAX_VALUE, -1000004, -2, -1, 0, 1, 7, 8, 11, 12, 40, 41, 60, 61, 99, 100, 255,
        256, 999, 1000, 9999, 10000, 65535, 99999};
    private static final String[] WORDS = {
        "watcher", "mill", "poet", "professor", "doubter", "fish", "bridge", "at", "wants", "believes", "level",
        "plan", "steady", ";", ";", ";", "0", "1", "3", "7", "8", "11", "12", "20", "99", "100", "999", "1000",
        "9999", "10000", "007", "99999999999", "x", "#", "A"};

    private static final List<String> trail = new ArrayList<>();
    private static int wrong = 0;
    private static long asked = 0;

    public static void main(String[] args) throws Exception {
        List<Method> methods = new ArrayList<>(Arrays.asList(ValveRiver.class.getDeclaredMethods()));
        methods.removeIf(m -> !java.lang.reflect.Modifier.isPublic(m.getModifiers()));
        methods.sort(Comparator.comparing(Method::getName));
        for (int run = 0; run < RUNS && wrong < WRONG_SHOWN; run++) {
            aRun(methods, new Random(7000 + run));
        }
        System.out.println(asked + " answers asked, " + wrong + " wrong");
        if (wrong != 0) {
            System.exit(1);
        }
    }

    private static void aRun(List<Method> methods, Random random) throws Exception {
        ValveRiver x = new ValveRiver();
        Mirror mirror = new Mirror();
        trail.clear();
        boolean calm = random.nextBoolean();
        int calls = 0;
        while (calls < CALLS && wrong < WRONG_SHOWN) {
            if (random.nextInt(12) == 0) {
                calls += aText(x, mirror, random);
            } else if (calm && random.nextInt(4) == 0) {
                ask(x, mirror, method(methods, "change"), new int[] {random.nextInt(8), 3, random.nextInt(100)});
                calls++;
            } else if (random.nextInt(10) == 0) {
                calls += aSheetOfLevels(methods, x, mirror, random);
            } else {
                Method m = methods.get(random.nextInt(methods.size()));
                if (m.getName().equals("wantFor") && random.nextInt(4) != 0) {
                    continue;
                }
                ask(x, mirror, m, someArgs(m, random));
                calls++;
            }
        }
    }

    private static Method method(List<Method> methods, String name) {
        return methods.stream().filter(m -> m.getName().equals(name)).findFirst().orElseThrow();
    }

    /** What the keeper may have seen: levels or beliefs of a river that is like this one, here and there. */
    private static int aSheetOfLevels(List<Method> methods, ValveRiver x, Mirror mirror, Random random)
            throws Exception {
        int s = random.nextInt(4);
        int n = random.nextInt(13);
        int cell = random.nextInt(3);
        int hour = random.nextInt(8);
        boolean beliefs = random.nextBoolean();
        boolean nowOnly = random.nextInt(4) == 0;
        ask(x, mirror, method(methods, "sheet"), new int[] {s, random.nextBoolean() ? 32 : 16, n});
        ask(x, mirror, method(methods, "image"), new int[0]);
        if (random.nextBoolean()) {
            ask(x, mirror, method(methods, "plan"), new int[] {hour, random.nextInt(100)});
        }
        for (int i = 0; i < n; i++) {
            int seen = beliefs ? mirror.belief(0, 3, i) : nowOnly ? mirror.stands(Math.min(i, 11)) : mirror.ahead(cell, i);
            if (beliefs) {
                x.belief(0, 3, i);
            }
            ask(x, mirror, method(methods, "write"), new int[] {s, i, !nowOnly && random.nextInt(3) == 0 ? -1 : seen});
        }
        ask(x, mirror, method(methods, "undo"), new int[0]);
        ask(x, mirror, method(methods, "fits"), new int[] {s, hour, cell});
        ask(x, mirror, method(methods, "opened"), new int[] {s, hour, cell});
        ask(x, mirror, method(methods, "kinds"), new int[] {s, 0});
        ask(x, mirror, method(methods, "judge"), new int[] {s});
        return n + 7;
    }

    private static int aText(ValveRiver x, Mirror mirror, Random random) throws Exception {
        StringBuilder text = new StringBuilder();
        if (random.nextBoolean()) {
            goodText(text, random);
        } else {
            int words = random.nextInt(9);
            for (int i = 0; i < words; i++) {
                text.append(WORDS[random.nextInt(WORDS.length)]).append(random.nextInt(3) == 0 ? "" : " ");
            }
        }
        if (random.nextInt(6) == 0 && text.length() > 0) {
            text.setCharAt(random.nextInt(text.length()), (char) random.nextInt(256));
        }
        Method feed = ValveRiver.class.getMethod("feed", int.class, int.class);
        if (random.nextInt(3) != 0) {
            ask(x, mirror, ValveRiver.class.getMethod("wipe"), new int[0]);
        }
        int calls = 2;
        for (int i = 0; i < text.length(); i += 4) {
            int n = Math.min(4, text.length() - i);
            int bytes = random.nextInt();
            for (int j = 0; j < n; j++) {
                bytes = bytes << 8 | text.charAt(i + j);
            }
            ask(x, mirror, feed, new int[] {bytes, n});
            calls++;
        }
        ask(x, mirror, ValveRiver.class.getMethod("text"), new int[0]);
        return calls;
    }

    private static void goodText(StringBuilder text, Random random) {
        int items = 1 + random.nextInt(4);
        for (int i = 0; i < items; i++) {
            text.append(i == 0 ? "" : random.nextBoolean() ? ";" : " ; ");
            int item = random.nextInt(13);
            if (item < 7) {
                text.append(WORDS[item]);
                text.append(random.nextBoolean() ? " at " + random.nextInt(12) : "");
                text.append(random.nextBoolean() ? " wants" + random.nextInt(60) : "");
                text.append(random.nextBoolean() ? " believes " + random.nextInt(100) : "");
            } else if (item < 9) {
                text.append("level ").append(random.nextInt(12)).append(' ').append(random.nextInt(200));
            } else if (item < 11) {
                text.append("plan").append(random.nextInt(8)).append(' ').append(random.nextInt(100));
            } else {
                text.append("steady ").append(random.nextInt(30));
            }
        }
    }

    private static int[] someArgs(Method m, Random random) {
        int[] args = new int[m.getParameterCount()];
        int[] most = mostOf(m.getName());
        for (int i = 0; i < args.length; i++) {
            boolean odd = random.nextInt(14) == 0;
            args[i] = odd ? ODD[random.nextInt(ODD.length)] : random.nextInt(most[i] + 1);
        }
        if (m.getName().equals("sheet") && random.nextInt(10) != 0) {
            args[1] = new int[] {0, 8, 16, 16, 32}[random.nextInt(5)];
        }
        if (m.getName().equals("change") && random.nextInt(3) != 0) {
            args[2] = random.nextInt(new int[] {7, 12, 60, 100, 10000, 5}[Math.floorMod(args[1], 6)]);
        }
        if (m.getName().equals("hold") && random.nextInt(4) == 0) {
            args[1] = -1;
        }
        if (m.getName().equals("belief") && random.nextInt(6) != 0) {
            args[1] = 3 + random.nextInt(2);
        }
        return args;
    }

    private static int[] mostOf(String name) {
        switch (name) {
            case "level": return new int[] {11, 120};
            case "plan": return new int[] {7, 60};
            case "steady": return new int[] {40};
            case "opening": case "turns": return new int[] {7};
            case "watcher": return new int[] {6, 11};
            case "of": return new int[] {7, 8};
            case "change": return new int[] {7, 5, 99};
            case "go": return new int[] {20};
            case "now": return new int[] {7};
            case "ahead": return new int[] {11, 101};
            case "belief": return new int[] {7, 5, 101};
            case "reaches": return new int[] {11, 120};
            case "range": return new int[] {11, 101, 2};
            case "enough": return new int[] {81};
            case "hide": return new int[] {99, 61};
            case "safe": return new int[] {8, 61};
            case "sleep": return new int[] {21};
            case "seat": case "kindFor": case "wantFor": return new int[] {7, 61};
            case "watch": return new int[] {61};
            case "fits": case "opened": return new int[] {3, 7, 11};
            case "kinds": return new int[] {3, 7};
            case "nights": return new int[] {21};
            case "odds": return new int[] {21, 2};
            case "seed": return new int[] {Integer.MAX_VALUE - 1};
            case "feed": return new int[] {Integer.MAX_VALUE - 1, 5};
            case "hold": return new int[] {10, 8};
            case "as": return new int[] {10, 7};
            case "sheet": return new int[] {3, 32, 41};
            case "write": return new int[] {3, 13, 120};
            case "copy": return new int[] {3, 6, 3, 6, 10};
            case "count": return new int[] {8};
            case "status": return new int[] {7};
            case "stands": return new int[] {12};
            case "when": return new int[] {7};
            default: return new int[] {4};
        }
    }

    private static void ask(ValveRiver x, Mirror mirror, Method m, int[] numbers) throws Exception {
        Object[] args = new Object[numbers.length];
        for (int i = 0; i < numbers.length; i++) {
            args[i] = numbers[i];
        }
        Method alike = Mirror.class.getDeclaredMethod(m.getName(), m.getParameterTypes());
        long got = ((Number) m.invoke(x, args)).longValue();
        long due = ((Number) alike.invoke(mirror, args)).longValue();
        trail.add(m.getName() + Arrays.toString(numbers) + " = " + got);
        asked++;
        if (got != due) {
            wrong++;
            System.out.println("behind " + trail.size() + " calls " + trail.get(trail.size() - 1) + ", due is " + due);
        }
    }
}
