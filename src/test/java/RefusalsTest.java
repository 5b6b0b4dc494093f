import java.util.function.Supplier;

/**
 * Every finding of promises 1 to 47, in the order in which the promise names them; each such call is made on one of
 * two rivers that are alike, and changes nothing but status(): all that can be seen of both is alike behind it.
 */
public final class RefusalsTest {
    private static final Due due = new Due();
    private static final int MIN = Integer.MIN_VALUE;
    private static final int MAX = Integer.MAX_VALUE;
    private static final Supplier<ValveRiver> FRESH = Rivers::fresh;
    private static final Supplier<ValveRiver> PEOPLED = Rivers::peopled;
    private static final Supplier<ValveRiver> FULL = Rivers::full;

    public static void main(String[] args) {
        riverAndPlan();
        watchersOfPeopled();
        watchersOfFresh();
        watchersOfFull();
        changes();
        hours();
        whatWillBe();
        whatWillBeIsNone();
        whatToOpen();
        whatToOpenIsNone();
        watchersTried();
        whatHeOpened();
        whatHeOpenedInOrder();
        nights();
        texts();
        spots();
        spotsInOrder();
        sheets();
        sheetsInOrder();
        copies();
        loadAndJudge();
        images();
        status();
        whatIsAskedChangesNothing();
        due.end();
    }

    /** The call answers that finding, which is counted once and in its own place, and nothing else differs. */
    private static void refused(Supplier<ValveRiver> river, int finding, String name, int... args) {
        behaves(river, finding, true, name, args);
    }

    /** The call answers this, and nothing at all differs behind it. */
    private static void asked(Supplier<ValveRiver> river, long answer, String name, int... args) {
        behaves(river, answer, false, name, args);
    }

    private static void behaves(Supplier<ValveRiver> river, long answer, boolean counted, String name, int... args) {
        ValveRiver x = river.get();
        ValveRiver twin = river.get();
        String call = Calls.told(name, args);
        due.is(call, Calls.ask(x, name, args), answer);
        for (int which = -1; which < 7; which++) {
            boolean its = counted && (which == -1 || answer == Due.BEYOND - which);
            due.is("status(" + which + ") behind " + call, x.status(which), twin.status(which) + (its ? 1 : 0));
        }
        due.is("all else is as it was behind " + call, Rivers.seen(x).equals(Rivers.seen(twin)) ? 1 : 0, 1);
    }

    /** Of one of the numbers of a call, all others being fine: the first ones that aren't allowed, and the farthest. */
    private static void ends(Supplier<ValveRiver> river, int place, int least, int most, String name, int... args) {
        for (int wrong : new int[] {least - 1, most + 1, MIN, MAX}) {
            int[] numbers = args.clone();
            numbers[place] = wrong;
            refused(river, Due.BEYOND, name, numbers);
        }
    }

    private static void riverAndPlan() {
        for (Supplier<ValveRiver> river : java.util.List.of(FRESH, PEOPLED, FULL)) {
            ends(river, 0, 0, 11, "level", 0, 5);
            ends(river, 1, 0, 9999, "level", 3, 0);
            ends(river, 0, 0, 11, "stands", 0);
            ends(river, 0, 0, 7, "plan", 0, 5);
            ends(river, 1, 0, 99, "plan", 3, 0);
            ends(river, 0, 0, 7, "opening", 0);
            ends(river, 0, 0, 99, "steady", 0);
        }
    }

    private static void watchersOfPeopled() {
        ends(PEOPLED, 0, 0, 6, "watcher", 0, 5);
        ends(PEOPLED, 1, 0, 11, "watcher", 3, 0);
        ends(PEOPLED, 0, 0, 2, "of", 0, 3);
        ends(PEOPLED, 1, 0, 7, "of", 2, 0);
    }

    private static void watchersOfFresh() {
        for (int what = 0; what < 8; what++) {
            refused(FRESH, Due.BEYOND, "of", 0, what);
        }
        for (int what = 0; what < 5; what++) {
            refused(FRESH, Due.BEYOND, "change", 0, what, 1);
        }
    }

    /** FULL is asked behind BEYOND. */
    private static void watchersOfFull() {
        refused(FULL, Due.FULL, "watcher", 0, 0);
        refused(FULL, Due.FULL, "watcher", 6, 11);
        ends(FULL, 0, 0, 6, "watcher", 0, 0);
        ends(FULL, 1, 0, 11, "watcher", 0, 0);
        ends(FULL, 0, 0, 7, "of", 0, 0);
        ends(FULL, 0, 0, 7, "change", 0, 0, 0);
    }

    private static void changes() {
        ends(PEOPLED, 0, 0, 2, "change", 0, 1, 3);
        ends(PEOPLED, 1, 0, 4, "change", 1, 1, 0);
        int[] most = {6, 11, 999, 99, 9999};
        for (int what = 0; what < 5; what++) {
            ends(PEOPLED, 2, 0, most[what], "change", 2, what, 0);
        }
    }

    private static void hours() {
        ends(PEOPLED, 0, 1, 80, "go", 1);
        ends(FRESH, 0, 1, 80, "go", 1);
        ends(PEOPLED, 0, 0, 6, "now", 0);
    }

    private static void whatWillBe() {
        ends(PEOPLED, 0, 0, 11, "ahead", 0, 5);
        ends(PEOPLED, 1, 0, 100, "ahead", 3, 0);
        ends(PEOPLED, 0, 0, 2, "belief", 0, 3, 5);
        ends(PEOPLED, 1, 3, 4, "belief", 1, 0, 5);
        ends(PEOPLED, 2, 0, 100, "belief", 2, 4, 0);
        ends(PEOPLED, 0, 0, 2, "when", 0);
        refused(FRESH, Due.BEYOND, "belief", 0, 3, 0);
        refused(FRESH, Due.BEYOND, "when", 0);
        ends(PEOPLED, 0, 0, 11, "reaches", 0, 5);
        ends(PEOPLED, 1, 0, 9999, "reaches", 3, 0);
        ends(PEOPLED, 0, 0, 11, "range", 0, 5, 0);
        ends(PEOPLED, 1, 0, 100, "range", 3, 0, 1);
        ends(PEOPLED, 2, 0, 1, "range", 3, 5, 0);
    }

    private static ValveRiver calmWatcher() {
        ValveRiver x = Rivers.even();
        x.watcher(0, 0);
        x.image();
        return x;
    }

    private static void whatWillBeIsNone() {
        refused(RefusalsTest::calmWatcher, Due.NONE, "when", 0);
        refused(RefusalsTest::calmWatcher, Due.NONE, "first");
        refused(FRESH, Due.NONE, "first");
        refused(RefusalsTest::calmWatcher, Due.NONE, "reaches", 0, 21);
        refused(RefusalsTest::calmWatcher, Due.NONE, "reaches", 11, 9999);
    }

    private static void whatToOpen() {
        ends(PEOPLED, 0, 0, 80, "enough", 0);
        ends(PEOPLED, 0, 0, 99, "hide", 0, 5);
        ends(PEOPLED, 1, 0, 60, "hide", 5, 0);
        ends(PEOPLED, 0, 0, 7, "safe", 0, 5);
        ends(PEOPLED, 1, 0, 60, "safe", 5, 0);
        ends(PEOPLED, 0, 0, 20, "sleep", 0);
    }

    /** One that wants what no opening brings, and a poet just below a flood, whom no plan can keep from it. */
    private static ValveRiver hopeless() {
        ValveRiver x = Rivers.even();
        x.watcher(0, 0);
        x.change(0, 2, 999);
        x.watcher(2, 11);
        x.change(1, 3, 1);
        x.level(10, 500);
        return x;
    }

    private static void whatToOpenIsNone() {
        for (int n : new int[] {0, 1, 80}) {
            refused(RefusalsTest::hopeless, Due.NONE, "enough", n);
        }
        ends(RefusalsTest::hopeless, 0, 0, 80, "enough", 0);
        for (int n : new int[] {1, 60}) {
            refused(RefusalsTest::hopeless, Due.NONE, "safe", 0, n);
            refused(RefusalsTest::hopeless, Due.NONE, "safe", 7, n);
        }
        ends(RefusalsTest::hopeless, 0, 0, 7, "safe", 0, 1);
        ends(RefusalsTest::hopeless, 1, 0, 60, "safe", 0, 1);
        for (int n : new int[] {1, 20}) {
            refused(RefusalsTest::hopeless, Due.NONE, "sleep", n);
        }
        ends(RefusalsTest::hopeless, 0, 0, 20, "sleep", 1);
    }

    private static void watchersTried() {
        for (String name : new String[] {"seat", "kindFor", "wantFor"}) {
            ends(PEOPLED, 0, 0, 2, name, 0, 5);
            ends(PEOPLED, 1, 0, 60, name, 2, 0);
            refused(FRESH, Due.BEYOND, name, 0, 0);
        }
        ends(PEOPLED, 0, 1, 60, "watch", 1);
    }

    private static void whatHeOpened() {
        for (String name : new String[] {"fits", "opened"}) {
            ends(PEOPLED, 0, 0, 3, name, 0, 5, 5);
            ends(PEOPLED, 1, 0, 7, name, 0, 0, 5);
            ends(PEOPLED, 2, 0, 11, name, 2, 5, 0);
        }
        ends(PEOPLED, 0, 0, 3, "kinds", 0, 1);
        ends(PEOPLED, 1, 0, 2, "kinds", 1, 0);
        refused(PEOPLED, Due.NONE, "opened", 1, 5, 5);
    }

    /** MISSING is asked behind the sheet, and ahead of the rest. */
    private static void whatHeOpenedInOrder() {
        for (String name : new String[] {"fits", "opened"}) {
            refused(PEOPLED, Due.BEYOND, name, 4, 8, 12);
            refused(PEOPLED, Due.MISSING, name, 3, 5, 5);
            refused(PEOPLED, Due.MISSING, name, 3, 8, 5);
            refused(PEOPLED, Due.MISSING, name, 3, -1, 5);
            refused(PEOPLED, Due.MISSING, name, 3, 5, 12);
            refused(PEOPLED, Due.MISSING, name, 3, 5, -1);
            refused(FRESH, Due.MISSING, name, 0, 0, 0);
        }
        refused(PEOPLED, Due.BEYOND, "kinds", 4, 3);
        refused(PEOPLED, Due.MISSING, "kinds", 3, 0);
        refused(PEOPLED, Due.MISSING, "kinds", 3, 3);
        refused(PEOPLED, Due.MISSING, "kinds", 3, -1);
        refused(FRESH, Due.MISSING, "kinds", 0, 0);
        refused(RefusalsTest::sheetAlone, Due.BEYOND, "kinds", 0, 0);
    }

    private static ValveRiver sheetAlone() {
        ValveRiver x = new ValveRiver();
        x.sheet(0, 8, 1);
        return x;
    }

    private static void nights() {
        ends(PEOPLED, 0, 1, 20, "nights", 1);
        ends(PEOPLED, 0, 0, 20, "odds", 0, 1);
        ends(PEOPLED, 1, 0, 1, "odds", 5, 0);
    }

    /** A tape of 119 has room for one byte; FULL is asked behind BEYOND. */
    private static ValveRiver tapeOf119() {
        ValveRiver x = new ValveRiver();
        for (int i = 0; i < 29; i++) {
            x.feed(0x20202020, 4);
        }
        x.feed(0x202020, 3);
        return x;
    }

    private static void texts() {
        ends(PEOPLED, 1, 1, 4, "feed", 'x', 1);
        for (int n = 1; n <= 4; n++) {
            refused(FULL, Due.FULL, "feed", 'x', n);
        }
        for (int n = 2; n <= 4; n++) {
            refused(RefusalsTest::tapeOf119, Due.FULL, "feed", 'x', n);
        }
        ends(FULL, 1, 1, 4, "feed", 'x', 1);
        ends(RefusalsTest::tapeOf119, 1, 1, 4, "feed", 'x', 1);
    }

    private static void spots() {
        ends(PEOPLED, 0, 0, 9, "hold", 0, 1);
        ends(PEOPLED, 0, 0, 9, "hold", 0, -1);
        ends(PEOPLED, 1, -1, 2, "hold", 0, 1);
        ends(FULL, 1, -1, 7, "hold", 9, 1);
        refused(FRESH, Due.BEYOND, "hold", 0, 0);
        ends(PEOPLED, 0, 0, 9, "as", 0, 1);
        ends(PEOPLED, 1, 0, 6, "as", 0, 1);
    }

    /** BEYOND, then MISSING, then KIND: spot 1 holds nothing, spot 0 a mill. */
    private static void spotsInOrder() {
        ends(PEOPLED, 1, 0, 6, "as", 1, 0);
        for (int kind = 0; kind < 7; kind++) {
            refused(PEOPLED, Due.MISSING, "as", 1, kind);
            refused(FRESH, Due.MISSING, "as", 9, kind);
        }
        for (int kind = 2; kind < 7; kind++) {
            refused(PEOPLED, Due.KIND, "as", 0, kind);
        }
    }

    private static void sheets() {
        ends(PEOPLED, 0, 0, 3, "sheet", 0, 8, 2);
        for (int bits : new int[] {-1, 1, 7, 9, 15, 17, 24, 31, 33, 64, -8, -32, MIN, MAX}) {
            refused(PEOPLED, Due.BEYOND, "sheet", 1, bits, 2);
        }
        for (int bits : new int[] {0, 8, 16, 32}) {
            for (int n : new int[] {-1, MIN}) {
                refused(PEOPLED, Due.SIZE, "sheet", 1, bits, n);
                refused(PEOPLED, Due.SIZE, "sheet", 3, bits, n);
            }
            for (int n : new int[] {41, MAX}) {
                refused(PEOPLED, Due.BEYOND, "sheet", 1, bits, n);
                refused(PEOPLED, Due.BEYOND, "sheet", 3, bits, n);
            }
        }
        ends(PEOPLED, 1, 0, 4, "write", 1, 0, 7);
        ends(PEOPLED, 0, 0, 3, "write", 0, 0, 7);
        ends(FULL, 1, 0, 39, "write", 0, 0, 7);
    }

    /** SIZE is asked behind the sheet and the bits; MISSING behind the sheet, ahead of the number. */
    private static void sheetsInOrder() {
        refused(PEOPLED, Due.BEYOND, "sheet", 4, 8, -1);
        refused(PEOPLED, Due.BEYOND, "sheet", -1, 0, -1);
        refused(PEOPLED, Due.BEYOND, "sheet", 1, 7, -1);
        refused(PEOPLED, Due.BEYOND, "write", 4, -1, 7);
        refused(PEOPLED, Due.MISSING, "write", 3, 0, 7);
        refused(PEOPLED, Due.MISSING, "write", 3, -1, 7);
        refused(PEOPLED, Due.MISSING, "write", 3, 40, 7);
        refused(RefusalsTest::emptySheet, Due.BEYOND, "write", 0, 0, 7);
        refused(RefusalsTest::emptySheet, Due.BEYOND, "write", 0, -1, 7);
    }

    private static ValveRiver emptySheet() {
        ValveRiver x = new ValveRiver();
        x.sheet(0, 8, 0);
        return x;
    }

    /** Two of 16 bits with 5 and 3 numbers, one of 8 bits, one missing. */
    private static ValveRiver toCopy() {
        ValveRiver x = new ValveRiver();
        Rivers.row(x, 0, 16, 11, 12, 13, 14, 15);
        Rivers.row(x, 1, 16, 21, 22, 23);
        Rivers.row(x, 2, 8, 31, 32, 33, 34, 35);
        return x;
    }

    private static void copies() {
        Supplier<ValveRiver> river = RefusalsTest::toCopy;
        ends(river, 0, 0, 3, "copy", 0, 0, 1, 0, 1);
        ends(river, 2, 0, 3, "copy", 0, 0, 1, 0, 1);
        refused(river, Due.BEYOND, "copy", 4, 0, 3, 0, 1);
        refused(river, Due.BEYOND, "copy", 3, 0, 4, 0, 1);
        refused(river, Due.MISSING, "copy", 3, 0, 1, 0, 1);
        refused(river, Due.MISSING, "copy", 0, 0, 3, 0, 1);
        refused(river, Due.MISSING, "copy", 3, 0, 3, 0, 0);
        refused(river, Due.MISSING, "copy", 3, -1, 2, -1, -1);
        refused(river, Due.MISSING, "copy", 2, 0, 3, 0, 41);
        refused(river, Due.KIND, "copy", 0, 0, 2, 0, 1);
        refused(river, Due.KIND, "copy", 2, 0, 1, 0, 0);
        refused(river, Due.KIND, "copy", 0, -1, 2, 0, 1);
        refused(river, Due.KIND, "copy", 0, 0, 2, -1, 1);
        refused(river, Due.KIND, "copy", 0, 0, 2, 0, -1);
        refused(river, Due.KIND, "copy", 0, 0, 2, 0, 41);
        int[][] wrong = {
            {-1, 0, 1}, {0, -1, 1}, {0, 0, -1}, {-1, 0, 0}, {0, -1, 0}, {1, 1, -1},
            {0, 0, 4}, {2, 0, 4}, {3, 0, 3}, {0, 1, 3}, {0, 3, 1}, {5, 0, 1}, {6, 0, 0}, {0, 4, 0},
            {MAX, 0, 1}, {0, MAX, 1}, {0, 0, MAX}, {1, 0, MAX}, {0, 1, MAX}, {MAX, MAX, MAX},
            {MIN, 0, 1}, {0, MIN, 1}, {0, 0, MIN}, {MIN, MIN, MIN}, {MAX, 0, MIN}};
        for (int[] w : wrong) {
            refused(river, Due.BEYOND, "copy", 0, w[0], 1, w[1], w[2]);
        }
        refused(river, Due.BEYOND, "copy", 0, 1, 0, 0, 5);
        refused(river, Due.BEYOND, "copy", 0, 0, 0, 1, 5);
    }

    private static void loadAndJudge() {
        for (String name : new String[] {"load", "judge"}) {
            ends(PEOPLED, 0, 0, 3, name, 0);
            refused(PEOPLED, Due.MISSING, name, 3);
            refused(FRESH, Due.MISSING, name, 0);
        }
    }

    private static ValveRiver torn() {
        ValveRiver x = Rivers.peopled();
        x.tear();
        return x;
    }

    private static void images() {
        refused(FRESH, Due.NONE, "undo");
        refused(RefusalsTest::torn, Due.NONE, "undo");
        ends(PEOPLED, 0, 0, 7, "count", 0);
    }

    private static void status() {
        ends(PEOPLED, 0, -1, 6, "status", 0);
        ends(FRESH, 0, -1, 6, "status", 0);
    }

    /** "What will be (nothing changes)", and the rest of what is only asked: its answers at the ends are no findings. */
    private static void whatIsAskedChangesNothing() {
        asked(FULL, 9999, "stands", 11);
        asked(FULL, 99, "opening", 7);
        asked(FULL, 11, "of", 7, 1);
        asked(FULL, 1, "now", 3);
        asked(FULL, 5099, "ahead", 0, 1);
        asked(FULL, 70, "belief", 7, 3, 0);
        asked(FULL, 0, "when", 0);
        asked(FULL, 0, "first");
        asked(FULL, 0, "reaches", 11, 9999);
        asked(FULL, 9999, "range", 11, 1, 0);
        asked(FULL, 0, "enough", 0);
        asked(FULL, 0, "hide", 99, 60);
        asked(FULL, 0, "safe", 7, 0);
        asked(RefusalsTest::calmWatcher, 0, "safe", 7, 60);
        asked(RefusalsTest::calmWatcher, 60, "sleep", 20);
        asked(FULL, 0, "turns");
        asked(FULL, 0, "seat", 7, 0);
        asked(FULL, 0, "kindFor", 7, 0);
        asked(FULL, 999, "wantFor", 7, 1);
        asked(FULL, 0, "watch", 1);
        asked(FULL, 0, "fits", 0, 0, 0);
        asked(FULL, 0, "kinds", 0, 1);
        asked(RefusalsTest::sheetAlone, 100, "fits", 0, 7, 11);
        asked(RefusalsTest::sheetAlone, 0, "opened", 0, 7, 11);
        asked(PEOPLED, 1, "odds", 20, 0);
        asked(FULL, 1, "as", 9, 1);
        asked(FULL, 1, "judge", 0);
        asked(FULL, 8, "count", 1);
        asked(FULL, 0, "status", -1);
    }
}
