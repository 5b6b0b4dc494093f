/** Promises 23 to 29: watchers tried; what he opened. */
public final class TrialsTest {
    private static final Due due = new Due();

    public static void main(String[] args) {
        seat();
        kindFor();
        wantFor();
        watch();
        fitsAndOpened();
        kinds();
        due.end();
    }

    private static ValveRiver dry() {
        ValveRiver x = new ValveRiver();
        x.steady(0);
        return x;
    }

    private static void seat() {
        ValveRiver x = dry();
        due.is("seat of nobody", x.seat(0, 0), Due.BEYOND);
        x.watcher(0, 2);
        due.is("seat(0, 60) where all are alike", x.seat(0, 60), 0);
        x.level(4, 10);
        due.is("seat(0, 1)", x.seat(0, 1), 4);
        due.is("seat(0, 0)", x.seat(0, 0), 0);
        x.level(4, 12);
        due.is("seat(0, 1) away from what shows", x.seat(0, 1), 0);
        x.level(4, 0);
        x.level(11, 10);
        due.is("seat(0, 1) at the end", x.seat(0, 1), 11);
        x.change(0, 3, 0);
        due.is("seat(0, 1) of one who knows", x.seat(0, 1), 0);
        due.is("of(0, 1) still", x.of(0, 1), 2);
        due.is("seat(0, 61)", x.seat(0, 61), Due.BEYOND);
        due.is("seat(0, -1)", x.seat(0, -1), Due.BEYOND);
        due.is("seat(1, 0)", x.seat(1, 0), Due.BEYOND);
        due.is("seat(-1, 0)", x.seat(-1, 0), Due.BEYOND);
    }

    private static void kindFor() {
        ValveRiver x = dry();
        due.is("kindFor of nobody", x.kindFor(0, 0), Due.BEYOND);
        x.watcher(2, 0);
        due.is("kindFor(0, 60) of one who lacks", x.kindFor(0, 60), 0);
        x.change(0, 2, 0);
        due.is("kindFor(0, 1)", x.kindFor(0, 1), 5);
        due.is("kindFor(0, 0)", x.kindFor(0, 0), 0);
        x.change(0, 3, 98);
        due.is("kindFor(0, 1) near the most", x.kindFor(0, 1), 0);
        x.change(0, 3, 50);
        x.change(0, 2, 170);
        x.steady(99);
        x.level(0, 150);
        due.is("kindFor(0, 1) of what a bridge bears", x.kindFor(0, 1), 6);
        x.level(0, 156);
        due.is("kindFor(0, 1) of what a mill bears", x.kindFor(0, 1), 1);
        due.is("of(0, 0) still", x.of(0, 0), 2);
        due.is("kindFor(0, 61)", x.kindFor(0, 61), Due.BEYOND);
        due.is("kindFor(0, -1)", x.kindFor(0, -1), Due.BEYOND);
        due.is("kindFor(1, 0)", x.kindFor(1, 0), Due.BEYOND);
        due.is("kindFor(-1, 0)", x.kindFor(-1, 0), Due.BEYOND);
    }

    private static void wantFor() {
        ValveRiver x = dry();
        due.is("wantFor of nobody", x.wantFor(0, 0), Due.BEYOND);
        x.watcher(0, 0);
        x.level(0, 100);
        due.is("wantFor(0, 0)", x.wantFor(0, 0), 999);
        due.is("wantFor(0, 1)", x.wantFor(0, 1), 50);
        due.is("wantFor(0, 2)", x.wantFor(0, 2), 25);
        due.is("wantFor(0, 60)", x.wantFor(0, 60), 1);
        x.change(0, 1, 5);
        due.is("wantFor(0, 1) where nothing is", x.wantFor(0, 1), 0);
        x.change(0, 4, 9999);
        due.is("wantFor(0, 1) of one as thirsty as can be", x.wantFor(0, 1), 999);
        x.change(0, 4, 9998);
        due.is("wantFor(0, 1) of one nearly so", x.wantFor(0, 1), 0);
        x.change(0, 3, 0);
        x.level(5, 1997);
        due.is("wantFor(0, 1) of one who knows", x.wantFor(0, 1), 999);
        x.level(5, 1995);
        due.is("wantFor(0, 1)", x.wantFor(0, 1), 998);
        due.is("of(0, 2) still", x.of(0, 2), 5);
        due.is("wantFor(0, 61)", x.wantFor(0, 61), Due.BEYOND);
        due.is("wantFor(0, -1)", x.wantFor(0, -1), Due.BEYOND);
        due.is("wantFor(1, 0)", x.wantFor(1, 0), Due.BEYOND);
        due.is("wantFor(-1, 0)", x.wantFor(-1, 0), Due.BEYOND);
    }

    private static void watch() {
        ValveRiver x = new ValveRiver();
        due.is("watch(1)", x.watch(1), 0);
        x.steady(0);
        due.is("watch(60) where nothing changes", x.watch(60), 0);
        x.level(1, 100);
        due.is("watch(1) at cell 1", x.watch(1), 1);
        x.level(1, 0);
        x.level(5, 100);
        due.is("watch(1) of two alike", x.watch(1), 5);
        x.level(5, 0);
        x.level(11, 3);
        due.is("watch(1) at the end", x.watch(1), 11);
        x.level(11, 0);
        // Cell 0: 20 10 25 13, so 20 + 10 + 15 + 12; cell 8: 30 15 8 4, so 56.
        x.plan(0, 20);
        x.plan(2, 20);
        x.level(8, 60);
        due.is("watch(4) up and down", x.watch(4), 0);
        due.is("watch(3)", x.watch(3), 8);
        due.is("watch(0)", x.watch(0), Due.BEYOND);
        due.is("watch(61)", x.watch(61), Due.BEYOND);
        due.is("now(0) still", x.now(0), 0);
    }

    private static void fitsAndOpened() {
        ValveRiver x = new ValveRiver();
        int[][] wrong = {{-1, 0, 0, Due.BEYOND}, {4, 9, 0, Due.BEYOND}, {0, 9, 0, Due.MISSING}, {0, 0, 0, Due.MISSING}};
        for (int[] w : wrong) {
            both(x, w[0], w[1], w[2], w[3], w[3]);
        }
        due.sheet(x, 0, 16, 0, 7);
        both(x, 0, 0, 0, 1, 7);
        both(x, 0, 1, 0, 0, Due.NONE);
        both(x, 0, -1, 0, Due.BEYOND, Due.BEYOND);
        both(x, 0, 8, 0, Due.BEYOND, Due.BEYOND);
        both(x, 0, 0, -1, Due.BEYOND, Due.BEYOND);
        both(x, 0, 0, 12, Due.BEYOND, Due.BEYOND);
        due.sheet(x, 1, 32, -1, -1, 3);
        both(x, 1, 0, 1, 2, 6);
        due.sheet(x, 1, 32, 1);
        both(x, 1, 0, 0, 0, Due.NONE);
        due.sheet(x, 1, 32);
        both(x, 1, 0, 0, 100, 0);
        due.sheet(x, 2, 8, 255, 10);
        both(x, 2, 5, 0, 100, 0);
        both(x, 2, 7, 11, 0, Due.NONE);
        due.sheet(x, 3, 8, -1, 99);
        both(x, 3, 0, 0, 1, 99);
        int[] nineDays = new int[40];
        java.util.Arrays.fill(nineDays, -1);
        x.steady(0);
        // Hour 7 comes in behind 8 hours first: what stands there behind 39 is of four of them, nearly gone.
        nineDays[8] = 50;
        due.sheet(x, 3, 16, nineDays);
        both(x, 3, 7, 0, 1, 50);
        nineDays[39] = 9998;
        due.sheet(x, 3, 16, nineDays);
        both(x, 3, 7, 0, 0, Due.NONE);
        due.is("opening(7) still", x.opening(7), 0);
    }

    private static void both(ValveRiver x, int s, int hour, int cell, int fits, int opened) {
        String args = "(" + s + ", " + hour + ", " + cell + ")";
        due.is("fits" + args, x.fits(s, hour, cell), fits);
        due.is("opened" + args, x.opened(s, hour, cell), opened);
    }

    private static void kinds() {
        ValveRiver x = new ValveRiver();
        due.is("kinds(-1, 0)", x.kinds(-1, 0), Due.BEYOND);
        due.is("kinds(4, 0)", x.kinds(4, 0), Due.BEYOND);
        due.is("kinds(0, 9)", x.kinds(0, 9), Due.MISSING);
        due.sheet(x, 0, 8, -1);
        due.is("kinds(0, 0) of nobody", x.kinds(0, 0), Due.BEYOND);
        x.watcher(2, 0);
        due.is("kinds(0, 1)", x.kinds(0, 1), Due.BEYOND);
        due.is("kinds(0, -1)", x.kinds(0, -1), Due.BEYOND);
        // 10 more in an hour: just what a bridge bears, and half of what a fish does.
        int[] beliefs = {40, 45, 30, 25, 0, 53, 52};
        for (int kind = 0; kind < 7; kind++) {
            due.sheet(x, 0, 8, 50, beliefs[kind]);
            due.is("kinds of 50, " + beliefs[kind], x.kinds(0, 0), 1 << kind);
        }
        due.sheet(x, 0, 8, 50);
        due.is("kinds of 50", x.kinds(0, 0), 127);
        due.sheet(x, 0, 8, 49);
        due.is("kinds of 49", x.kinds(0, 0), 0);
        due.sheet(x, 0, 8);
        due.is("kinds of nothing", x.kinds(0, 0), 127);
        due.sheet(x, 0, 8, -1, -1, 41);
        due.is("kinds of any, any, 41", x.kinds(0, 0), 1);
        x.level(0, 20);
        due.sheet(x, 0, 8, 50, 51);
        due.is("kinds of 50, 51", x.kinds(0, 0), 5);
        due.sheet(x, 0, 8, -1, 50);
        due.is("kinds of any, 50", x.kinds(0, 0), 24);
        due.is("of(0, 0) still", x.of(0, 0), 2);
        due.is("of(0, 3) still", x.of(0, 3), 50);
    }
}
