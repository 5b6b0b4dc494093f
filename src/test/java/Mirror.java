import java.math.BigInteger;
import java.util.ArrayList;
import java.util.List;
import java.util.function.Predicate;

/**
 * A second telling of the document, slow and by trying everything, that the class is held against.
 * It shares nothing with the class: kinds are objects under one another, texts are cut into tokens first.
 */
final class Mirror {
    static final int BEYOND = 0;
    static final int FULL = 1;
    static final int KIND = 2;
    static final int NONE = 3;
    static final int STATE = 4;
    static final int MISSING = 5;
    static final int SIZE = 6;

    static class Kind {
        int bears(Person p) {
            return 5;
        }

        int doubts() {
            return 10;
        }

        int trusts() {
            return 1;
        }
    }

    static class Mill extends Kind {
        @Override int bears(Person p) {
            return super.bears(p) + p.want / 10;
        }

        @Override int doubts() {
            return super.doubts() / 2;
        }

        @Override int trusts() {
            return super.trusts() + 1;
        }
    }

    static class Bridge extends Mill {
        @Override int bears(Person p) {
            return 2 * super.bears(p);
        }

        @Override int doubts() {
            return super.doubts() - 4;
        }
    }

    static class Poet extends Kind {
        @Override int bears(Person p) {
            return super.bears(p) - 2;
        }

        @Override int doubts() {
            return 2 * super.doubts();
        }
    }

    static class Professor extends Poet {
        @Override int bears(Person p) {
            return super.bears(p) - 1;
        }

        @Override int doubts() {
            return super.doubts() + 5;
        }

        @Override int trusts() {
            return 0;
        }
    }

    static class Doubter extends Professor {
        @Override int bears(Person p) {
            return super.bears(p) - (p.belief < 20 ? 1 : 0);
        }

        @Override int doubts() {
            return 2 * super.doubts();
        }
    }

    static class Fish extends Kind {
        @Override int bears(Person p) {
            return 20;
        }

        @Override int doubts() {
            return 0;
        }

        @Override int trusts() {
            return 3;
        }
    }

    static final List<Kind> KINDS = List.of(
        new Kind(), new Mill(), new Poet(), new Professor(), new Doubter(), new Fish(), new Bridge());
    static final List<String> KIND_WORDS = List.of(
        "watcher", "mill", "poet", "professor", "doubter", "fish", "bridge");

    static final class Person {
        int kind;
        int cell;
        int want = 5;
        int belief = 50;
        int thirst = 0;

        Person(int kind, int cell) {
            this.kind = kind;
            this.cell = cell;
        }

        Person twin() {
            Person p = new Person(kind, cell);
            p.want = want;
            p.belief = belief;
            p.thirst = thirst;
            return p;
        }

        Kind asKind() {
            return KINDS.get(kind);
        }
    }

    static final class World {
        int[] levels = new int[12];
        int[] plan = {10, 10, 10, 10, 10, 10, 10, 10};
        int sea = 0;
        int hour = 0;
        int z = 1;
        List<Person> people = new ArrayList<>();
        Person[] spots = new Person[10];

        World twin() {
            World w = new World();
            w.levels = levels.clone();
            w.plan = plan.clone();
            w.sea = sea;
            w.hour = hour;
            w.z = z;
            for (Person p : people) {
                w.people.add(p.twin());
            }
            for (int i = 0; i < 10; i++) {
                w.spots[i] = spots[i] == null ? null : w.people.get(people.indexOf(spots[i]));
            }
            return w;
        }

        World behind(int hours) {
            World w = twin();
            for (int i = 0; i < hours; i++) {
                w.anHour(true);
            }
            return w;
        }

        World with(int planHour, int opening) {
            World w = twin();
            w.plan[planHour] = opening;
            return w;
        }

        void anHour(boolean open) {
            int[] next = new int[12];
            for (int c = 0; c < 12; c++) {
                int goes = levels[c] / 2;
                next[c] += levels[c] - goes;
                if (c < 11) {
                    next[c + 1] += goes;
                } else {
                    sea = Math.min(999999, sea + goes);
                }
            }
            next[0] += open ? plan[hour % 8] : 0;
            for (int c = 0; c < 12; c++) {
                next[c] = Math.min(9999, next[c]);
            }
            for (Person p : people) {
                int ahead = levels[p.cell];
                int now = next[p.cell];
                boolean differs = Math.abs(now - ahead) > p.asKind().bears(p);
                if (p.belief > 0 && differs) {
                    p.belief = Math.max(0, p.belief - p.asKind().doubts());
                } else if (p.belief > 0 && now >= p.want) {
                    p.belief = Math.min(99, p.belief + p.asKind().trusts());
                }
                if (now < p.want) {
                    p.thirst = Math.min(9999, p.thirst + 1);
                }
            }
            levels = next;
            hour = Math.min(99999, hour + 1);
        }

        int set(Predicate<Person> which) {
            int bits = 0;
            for (int i = 0; i < people.size(); i++) {
                if (which.test(people.get(i))) {
                    bits += 1 << i;
                }
            }
            return bits;
        }

        int knowing() {
            return set(p -> p.belief == 0);
        }

        int lacking() {
            return set(p -> levels[p.cell] < p.want);
        }

        int beliefs() {
            return people.stream().mapToInt(p -> p.belief).sum();
        }

        int draw() {
            z = (int) ((long) z * 1103515245L + 12345L);
            return z >>> 8;
        }
    }

    private World world = new World();
    private World kept = null;
    private final List<Integer> tape = new ArrayList<>();
    private final long[][] sheets = new long[4][];
    private final int[] sheetBits = new int[4];
    private final int[] told = new int[7];

    private int finding(int which) {
        told[which]++;
        return -1000001 - which;
    }

    private static boolean in(int v, int least, int most) {
        return least <= v && v <= most;
    }

    private boolean isPerson(int w) {
        return in(w, 0, world.people.size() - 1);
    }

    private static int sum(int[] numbers) {
        int sum = 0;
        for (int n : numbers) {
            sum += n;
        }
        return sum;
    }

    int level(int cell, int v) {
        if (!in(cell, 0, 11) || !in(v, 0, 9999)) {
            return finding(BEYOND);
        }
        int was = world.levels[cell];
        world.levels[cell] = v;
        return was;
    }

    int stands(int cell) {
        return in(cell, 0, 11) ? world.levels[cell] : finding(BEYOND);
    }

    int plan(int hour, int v) {
        if (!in(hour, 0, 7) || !in(v, 0, 99)) {
            return finding(BEYOND);
        }
        int was = world.plan[hour];
        world.plan[hour] = v;
        return was;
    }

    int opening(int hour) {
        return in(hour, 0, 7) ? world.plan[hour] : finding(BEYOND);
    }

    int steady(int v) {
        if (!in(v, 0, 99)) {
            return finding(BEYOND);
        }
        int were = sum(world.plan);
        java.util.Arrays.fill(world.plan, v);
        return were;
    }

    int watcher(int kind, int cell) {
        if (!in(kind, 0, 6) || !in(cell, 0, 11)) {
            return finding(BEYOND);
        }
        if (world.people.size() == 8) {
            return finding(FULL);
        }
        world.people.add(new Person(kind, cell));
        return world.people.size() - 1;
    }

    int of(int watcher, int what) {
        if (!isPerson(watcher) || !in(what, 0, 7)) {
            return finding(BEYOND);
        }
        Person p = world.people.get(watcher);
        int[] all = {p.kind, p.cell, p.want, p.belief, p.thirst,
            p.asKind().bears(p), p.asKind().doubts(), p.asKind().trusts()};
        return all[what];
    }

    int change(int watcher, int what, int v) {
        int[] most = {6, 11, 999, 99, 9999};
        if (!isPerson(watcher) || !in(what, 0, 4) || !in(v, 0, most[what])) {
            return finding(BEYOND);
        }
        Person p = world.people.get(watcher);
        int was = new int[] {p.kind, p.cell, p.want, p.belief, p.thirst}[what];
        p.kind = what == 0 ? v : p.kind;
        p.cell = what == 1 ? v : p.cell;
        p.want = what == 2 ? v : p.want;
        p.belief = what == 3 ? v : p.belief;
        p.thirst = what == 4 ? v : p.thirst;
        return was;
    }

    int go(int n) {
        if (!in(n, 1, 80)) {
            return finding(BEYOND);
        }
        if (world.hour + n > 99999) {
            return finding(STATE);
        }
        world = world.behind(n);
        return world.knowing();
    }

    int now(int what) {
        if (!in(what, 0, 6)) {
            return finding(BEYOND);
        }
        return new int[] {world.hour, sum(world.levels), world.sea, world.knowing(), world.lacking(),
            world.beliefs(), sum(world.plan)}[what];
    }

    int ahead(int cell, int n) {
        return in(cell, 0, 11) && in(n, 0, 100) ? world.behind(n).levels[cell] : finding(BEYOND);
    }

    int belief(int watcher, int what, int n) {
        if (!isPerson(watcher) || !in(what, 3, 4) || !in(n, 0, 100)) {
            return finding(BEYOND);
        }
        Person p = world.behind(n).people.get(watcher);
        return what == 3 ? p.belief : p.thirst;
    }

    int when(int watcher) {
        if (!isPerson(watcher)) {
            return finding(BEYOND);
        }
        int hours = soonest(watcher);
        return hours > 200 ? finding(NONE) : hours;
    }

    private int soonest(int watcher) {
        World w = world.twin();
        int hours = 0;
        while (hours <= 200 && w.people.get(watcher).belief != 0) {
            w.anHour(true);
            hours++;
        }
        return hours;
    }

    int first() {
        int best = -1;
        int fewest = 201;
        for (int i = 0; i < world.people.size(); i++) {
            if (soonest(i) < fewest) {
                fewest = soonest(i);
                best = i;
            }
        }
        return best < 0 ? finding(NONE) : best;
    }

    int reaches(int cell, int v) {
        if (!in(cell, 0, 11) || !in(v, 0, 9999)) {
            return finding(BEYOND);
        }
        World w = world.twin();
        for (int hours = 0; hours <= 200; hours++) {
            if (w.levels[cell] >= v) {
                return hours;
            }
            w.anHour(true);
        }
        return finding(NONE);
    }

    int range(int cell, int n, int what) {
        if (!in(cell, 0, 11) || !in(n, 0, 100) || !in(what, 0, 1)) {
            return finding(BEYOND);
        }
        List<Integer> levels = new ArrayList<>();
        for (int hours = 0; hours <= n; hours++) {
            levels.add(world.behind(hours).levels[cell]);
        }
        return what == 0 ? java.util.Collections.min(levels) : java.util.Collections.max(levels);
    }

    int enough(int n) {
        if (!in(n, 0, 80)) {
            return finding(BEYOND);
        }
        for (int v = 0; v <= 99; v++) {
            World w = world.twin();
            java.util.Arrays.fill(w.plan, v);
            if (w.behind(n).lacking() == 0) {
                return v;
            }
        }
        return finding(NONE);
    }

    int hide(int v, int n) {
        if (!in(v, 0, 99) || !in(n, 0, 60)) {
            return finding(BEYOND);
        }
        int[] knowing = new int[8];
        for (int hour = 0; hour < 8; hour++) {
            knowing[hour] = Integer.bitCount(world.with(hour, v).behind(n).knowing());
        }
        return placeOfMost(java.util.Arrays.stream(knowing).map(k -> -k).toArray());
    }

    private static int placeOfMost(int[] numbers) {
        int best = 0;
        for (int i = 0; i < numbers.length; i++) {
            best = numbers[i] > numbers[best] ? i : best;
        }
        return best;
    }

    int safe(int hour, int n) {
        if (!in(hour, 0, 7) || !in(n, 0, 60)) {
            return finding(BEYOND);
        }
        for (int v = 0; v <= 99; v++) {
            if ((world.with(hour, v).behind(n).knowing() & ~world.knowing()) == 0) {
                return v;
            }
        }
        return finding(NONE);
    }

    int sleep(int n) {
        if (!in(n, 0, 20)) {
            return finding(BEYOND);
        }
        for (int hours = 60; hours >= 0; hours--) {
            World w = world.twin();
            for (int i = 0; i < hours; i++) {
                w.anHour(false);
            }
            if ((w.behind(n).knowing() & ~world.knowing()) == 0) {
                return hours;
            }
        }
        return finding(NONE);
    }

    int turns() {
        int turns = world.plan[0] != world.plan[7] ? 1 : 0;
        for (int hour = 1; hour < 8; hour++) {
            turns += world.plan[hour] != world.plan[hour - 1] ? 1 : 0;
        }
        return turns;
    }

    int seat(int watcher, int n) {
        if (!isPerson(watcher) || !in(n, 0, 60)) {
            return finding(BEYOND);
        }
        int[] beliefs = new int[12];
        for (int cell = 0; cell < 12; cell++) {
            World w = world.twin();
            w.people.get(watcher).cell = cell;
            beliefs[cell] = w.behind(n).people.get(watcher).belief;
        }
        return placeOfMost(beliefs);
    }

    int kindFor(int watcher, int n) {
        if (!isPerson(watcher) || !in(n, 0, 60)) {
            return finding(BEYOND);
        }
        int[] beliefs = new int[7];
        for (int kind = 0; kind < 7; kind++) {
            World w = world.twin();
            w.people.get(watcher).kind = kind;
            beliefs[kind] = w.behind(n).people.get(watcher).belief;
        }
        return placeOfMost(beliefs);
    }

    int wantFor(int watcher, int n) {
        if (!isPerson(watcher) || !in(n, 0, 60)) {
            return finding(BEYOND);
        }
        int want = 999;
        while (true) {
            World w = world.twin();
            w.people.get(watcher).want = want;
            if (w.behind(n).people.get(watcher).thirst == world.people.get(watcher).thirst) {
                return want;
            }
            want--;
        }
    }

    int watch(int n) {
        if (!in(n, 1, 60)) {
            return finding(BEYOND);
        }
        int[] changes = new int[12];
        for (int hours = 1; hours <= n; hours++) {
            int[] ahead = world.behind(hours - 1).levels;
            int[] now = world.behind(hours).levels;
            for (int cell = 0; cell < 12; cell++) {
                changes[cell] += Math.abs(now[cell] - ahead[cell]);
            }
        }
        return placeOfMost(changes);
    }

    private List<Integer> fitting(int s, int hour, int cell) {
        List<Integer> fitting = new ArrayList<>();
        for (int v = 0; v <= 99; v++) {
            boolean fits = true;
            for (int i = 0; i < sheets[s].length && fits; i++) {
                fits = sheets[s][i] == -1 || world.with(hour, v).behind(i).levels[cell] == sheets[s][i];
            }
            if (fits) {
                fitting.add(v);
            }
        }
        return fitting;
    }

    int fits(int s, int hour, int cell) {
        if (!in(s, 0, 3)) {
            return finding(BEYOND);
        }
        if (sheets[s] == null) {
            return finding(MISSING);
        }
        return in(hour, 0, 7) && in(cell, 0, 11) ? fitting(s, hour, cell).size() : finding(BEYOND);
    }

    int opened(int s, int hour, int cell) {
        if (!in(s, 0, 3)) {
            return finding(BEYOND);
        }
        if (sheets[s] == null) {
            return finding(MISSING);
        }
        if (!in(hour, 0, 7) || !in(cell, 0, 11)) {
            return finding(BEYOND);
        }
        List<Integer> fitting = fitting(s, hour, cell);
        return fitting.isEmpty() ? finding(NONE) : fitting.get(0);
    }

    int kinds(int s, int watcher) {
        if (!in(s, 0, 3)) {
            return finding(BEYOND);
        }
        if (sheets[s] == null) {
            return finding(MISSING);
        }
        if (!isPerson(watcher)) {
            return finding(BEYOND);
        }
        int set = 0;
        for (int kind = 0; kind < 7; kind++) {
            World w = world.twin();
            w.people.get(watcher).kind = kind;
            boolean fits = true;
            for (int i = 0; i < sheets[s].length; i++) {
                fits &= sheets[s][i] == -1 || w.behind(i).people.get(watcher).belief == sheets[s][i];
            }
            set += fits ? 1 << kind : 0;
        }
        return set;
    }

    int nights(int n) {
        if (!in(n, 1, 20)) {
            return finding(BEYOND);
        }
        if (world.hour + n > 99999) {
            return finding(STATE);
        }
        for (int i = 0; i < n; i++) {
            int hour = world.draw() % 8;
            int opening = world.draw() % 40;
            world.plan[hour] = opening;
            world.anHour(true);
        }
        return Integer.bitCount(world.knowing());
    }

    long odds(int n, int what) {
        if (!in(n, 0, 20) || !in(what, 0, 1)) {
            return finding(BEYOND);
        }
        long open = java.util.Arrays.stream(world.plan).filter(o -> o != 0).count();
        BigInteger above = BigInteger.valueOf(open).pow(n);
        BigInteger below = BigInteger.valueOf(8).pow(n);
        BigInteger common = above.gcd(below);
        return (what == 0 ? above : below).divide(common).longValueExact();
    }

    int seed(int v) {
        int was = world.z;
        world.z = v;
        return was;
    }

    int feed(int bytes, int n) {
        if (!in(n, 1, 4)) {
            return finding(BEYOND);
        }
        if (tape.size() + n > 120) {
            return finding(FULL);
        }
        byte[] all = java.nio.ByteBuffer.allocate(4).putInt(bytes).array();
        for (int i = 4 - n; i < 4; i++) {
            tape.add(all[i] & 0xff);
        }
        return tape.size();
    }

    int wipe() {
        int had = tape.size();
        tape.clear();
        return had;
    }

    record Token(int place, String is) {
        boolean isNumber(int most) {
            return is.matches("[0-9]+") && new BigInteger(is).compareTo(BigInteger.valueOf(most)) <= 0;
        }

        int number() {
            return Integer.parseInt(new BigInteger(is).toString());
        }
    }

    private static final class Fault extends RuntimeException {
        private static final long serialVersionUID = 1L;
        final int place;

        Fault(int place) {
            this.place = place;
        }
    }

    private List<Token> tokens() {
        StringBuilder all = new StringBuilder();
        for (int b : tape) {
            all.append((char) b);
        }
        List<Token> tokens = new ArrayList<>();
        java.util.regex.Matcher m = java.util.regex.Pattern.compile("[a-z]+|[0-9]+|[^ ]").matcher(all);
        while (m.find()) {
            tokens.add(new Token(m.start(), m.group()));
        }
        tokens.add(new Token(tape.size(), ""));
        return tokens;
    }

    int text() {
        List<Token> tokens = tokens();
        tape.clear();
        World w = world.twin();
        int items = 0;
        try {
            while (true) {
                item(tokens, w);
                items++;
                Token next = tokens.remove(0);
                if (next.is.isEmpty()) {
                    break;
                }
                if (!next.is.equals(";")) {
                    throw new Fault(next.place);
                }
            }
        } catch (Fault fault) {
            return -1 - fault.place;
        }
        world = w;
        return items;
    }

    private static void item(List<Token> tokens, World w) {
        Token head = tokens.get(0);
        int kind = KIND_WORDS.indexOf(head.is);
        if (kind >= 0 && w.people.size() < 8) {
            tokens.remove(0);
            Person p = new Person(kind, 0);
            p.cell = perhaps(tokens, "at", 11, p.cell);
            p.want = perhaps(tokens, "wants", 999, p.want);
            p.belief = perhaps(tokens, "believes", 99, p.belief);
            w.people.add(p);
        } else if (head.is.equals("level")) {
            tokens.remove(0);
            int cell = number(tokens, 11);
            w.levels[cell] = number(tokens, 9999);
        } else if (head.is.equals("plan")) {
            tokens.remove(0);
            int hour = number(tokens, 7);
            w.plan[hour] = number(tokens, 99);
        } else if (head.is.equals("steady")) {
            tokens.remove(0);
            java.util.Arrays.fill(w.plan, number(tokens, 99));
        } else {
            throw new Fault(head.place);
        }
    }

    private static int perhaps(List<Token> tokens, String word, int most, int otherwise) {
        if (!tokens.get(0).is.equals(word)) {
            return otherwise;
        }
        tokens.remove(0);
        return number(tokens, most);
    }

    private static int number(List<Token> tokens, int most) {
        Token token = tokens.get(0);
        if (!token.isNumber(most)) {
            throw new Fault(token.place);
        }
        tokens.remove(0);
        return token.number();
    }

    int hold(int spot, int watcher) {
        if (!in(spot, 0, 9) || !(watcher == -1 || isPerson(watcher))) {
            return finding(BEYOND);
        }
        world.spots[spot] = watcher == -1 ? null : world.people.get(watcher);
        return 1;
    }

    int as(int spot, int kind) {
        if (!in(spot, 0, 9) || !in(kind, 0, 6)) {
            return finding(BEYOND);
        }
        Person p = world.spots[spot];
        if (p == null) {
            return finding(MISSING);
        }
        return KINDS.get(kind).getClass().isInstance(p.asKind()) ? world.people.indexOf(p) : finding(KIND);
    }

    int sheet(int s, int bits, int n) {
        if (!in(s, 0, 3) || !List.of(0, 8, 16, 32).contains(bits)) {
            return finding(BEYOND);
        }
        if (n < 0) {
            return finding(SIZE);
        }
        if (n > 40) {
            return finding(BEYOND);
        }
        sheets[s] = bits == 0 ? null : new long[n];
        sheetBits[s] = bits;
        return bits == 0 ? 0 : n;
    }

    int write(int s, int i, int v) {
        if (!in(s, 0, 3)) {
            return finding(BEYOND);
        }
        if (sheets[s] == null) {
            return finding(MISSING);
        }
        if (!in(i, 0, sheets[s].length - 1)) {
            return finding(BEYOND);
        }
        int off = 32 - sheetBits[s];
        sheets[s][i] = v << off >> off;
        return 1;
    }

    int copy(int s, int from, int t, int to, int n) {
        if (!in(s, 0, 3) || !in(t, 0, 3)) {
            return finding(BEYOND);
        }
        if (sheets[s] == null || sheets[t] == null) {
            return finding(MISSING);
        }
        if (sheetBits[s] != sheetBits[t]) {
            return finding(KIND);
        }
        if (from < 0 || to < 0 || n < 0 || (long) from + n > sheets[s].length || (long) to + n > sheets[t].length) {
            return finding(BEYOND);
        }
        long[] were = sheets[s].clone();
        for (int i = 0; i < n; i++) {
            sheets[t][to + i] = were[from + i];
        }
        return n;
    }

    int load(int s) {
        if (!in(s, 0, 3)) {
            return finding(BEYOND);
        }
        if (sheets[s] == null) {
            return finding(MISSING);
        }
        int came = 0;
        for (long number : sheets[s]) {
            if (came == 8 || number < 0 || number > 99) {
                break;
            }
            world.plan[came] = (int) number;
            came++;
        }
        return came;
    }

    int judge(int s) {
        if (!in(s, 0, 3)) {
            return finding(BEYOND);
        }
        if (sheets[s] == null) {
            return finding(MISSING);
        }
        for (int i = 0; i < sheets[s].length; i++) {
            if (i == 12 || sheets[s][i] != world.levels[i]) {
                return i + 1;
            }
        }
        return 0;
    }

    int image() {
        kept = world.twin();
        return 1;
    }

    int undo() {
        if (kept == null) {
            return finding(NONE);
        }
        world = kept.twin();
        return world.hour;
    }

    int tear() {
        int was = kept == null ? 0 : 1;
        kept = null;
        return was;
    }

    int count(int what) {
        if (!in(what, 0, 7)) {
            return finding(BEYOND);
        }
        int held = 0;
        for (Person p : world.spots) {
            held += p == null ? 0 : 1;
        }
        return new int[] {world.hour, world.people.size(), Integer.bitCount(world.knowing()), sum(world.levels),
            world.beliefs(), tape.size(), world.z, held}[what];
    }

    int status(int which) {
        if (!in(which, -1, 6)) {
            return finding(BEYOND);
        }
        return which == -1 ? sum(told) : told[which];
    }
}
