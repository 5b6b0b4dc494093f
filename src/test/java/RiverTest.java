/** Promises 1 to 11: a new object; river, plan, watchers; hours. */
public final class RiverTest {
    private static final Due due = new Due();

    public static void main(String[] args) {
        newObject();
        levels();
        plans();
        steady();
        watchers();
        ofKinds();
        change();
        go();
        believing();
        thirst();
        sea();
        now();
        due.end();
    }

    private static void newObject() {
        ValveRiver x = new ValveRiver();
        for (int cell = 0; cell < 12; cell++) {
            due.is("new stands(" + cell + ")", x.stands(cell), 0);
        }
        for (int hour = 0; hour < 8; hour++) {
            due.is("new opening(" + hour + ")", x.opening(hour), 10);
        }
        for (int what = 0; what < 6; what++) {
            due.is("new now(" + what + ")", x.now(what), 0);
        }
        for (int what = 0; what < 8; what++) {
            due.is("new count(" + what + ")", x.count(what), what == 6 ? 1 : 0);
        }
        for (int which = -1; which < 7; which++) {
            due.is("new status(" + which + ")", x.status(which), 0);
        }
        due.is("new wipe()", x.wipe(), 0);
        due.is("new tear()", x.tear(), 0);
        due.is("new undo()", x.undo(), Due.NONE);
        for (int s = 0; s < 4; s++) {
            due.is("new judge(" + s + ")", x.judge(s), Due.MISSING);
        }
        for (int spot = 0; spot < 10; spot++) {
            due.is("new as(" + spot + ", 0)", x.as(spot, 0), Due.MISSING);
        }
    }

    private static void levels() {
        ValveRiver x = new ValveRiver();
        due.is("level(0, 9999)", x.level(0, 9999), 0);
        due.is("level(0, 0)", x.level(0, 0), 9999);
        due.is("level(11, 7)", x.level(11, 7), 0);
        due.is("stands(11)", x.stands(11), 7);
        due.is("stands(0)", x.stands(0), 0);
        int[][] wrong = {{-1, 5}, {12, 5}, {11, -1}, {11, 10000}, {Integer.MIN_VALUE, 5}, {11, Integer.MAX_VALUE}};
        for (int[] w : wrong) {
            due.is("level(" + w[0] + ", " + w[1] + ")", x.level(w[0], w[1]), Due.BEYOND);
        }
        due.is("stands(-1)", x.stands(-1), Due.BEYOND);
        due.is("stands(12)", x.stands(12), Due.BEYOND);
        due.is("stands(11) still", x.stands(11), 7);
        due.is("status(0)", x.status(0), 8);
    }

    private static void plans() {
        ValveRiver x = new ValveRiver();
        due.is("plan(0, 99)", x.plan(0, 99), 10);
        due.is("plan(0, 0)", x.plan(0, 0), 99);
        due.is("plan(7, 3)", x.plan(7, 3), 10);
        due.is("opening(7)", x.opening(7), 3);
        due.is("opening(0)", x.opening(0), 0);
        due.is("opening(6)", x.opening(6), 10);
        int[][] wrong = {{-1, 5}, {8, 5}, {7, -1}, {7, 100}};
        for (int[] w : wrong) {
            due.is("plan(" + w[0] + ", " + w[1] + ")", x.plan(w[0], w[1]), Due.BEYOND);
        }
        due.is("opening(-1)", x.opening(-1), Due.BEYOND);
        due.is("opening(8)", x.opening(8), Due.BEYOND);
        due.is("opening(7) still", x.opening(7), 3);
    }

    private static void steady() {
        ValveRiver x = new ValveRiver();
        x.plan(3, 27);
        due.is("steady(99)", x.steady(99), 97);
        due.is("steady(0)", x.steady(0), 792);
        due.is("steady(-1)", x.steady(-1), Due.BEYOND);
        due.is("steady(100)", x.steady(100), Due.BEYOND);
        for (int hour = 0; hour < 8; hour++) {
            due.is("opening(" + hour + ")", x.opening(hour), 0);
        }
    }

    private static void watchers() {
        ValveRiver x = new ValveRiver();
        for (int i = 0; i < 8; i++) {
            due.is("watcher " + i, x.watcher(i % 7, i + 4), i);
        }
        due.is("watcher(0, 0) with 8", x.watcher(0, 0), Due.FULL);
        due.is("watcher(7, 0) with 8", x.watcher(7, 0), Due.BEYOND);
        due.is("watcher(-1, 0) with 8", x.watcher(-1, 0), Due.BEYOND);
        due.is("watcher(0, 12) with 8", x.watcher(0, 12), Due.BEYOND);
        due.is("watcher(0, -1) with 8", x.watcher(0, -1), Due.BEYOND);
        due.is("count(1)", x.count(1), 8);
        int[] begin = {6, 10, 5, 50, 0};
        for (int what = 0; what < 5; what++) {
            due.is("of(6, " + what + ")", x.of(6, what), begin[what]);
        }
        due.is("of(8, 0)", x.of(8, 0), Due.BEYOND);
        due.is("of(-1, 0)", x.of(-1, 0), Due.BEYOND);
        due.is("of(0, 8)", x.of(0, 8), Due.BEYOND);
        due.is("of(0, -1)", x.of(0, -1), Due.BEYOND);
        due.is("status(1)", x.status(1), 1);
        due.is("status(0)", x.status(0), 8);
    }

    private static void ofKinds() {
        ValveRiver x = new ValveRiver();
        x.watcher(0, 0);
        int[] bearsAt5 = {5, 5, 3, 2, 2, 20, 10};
        int[] bearsAt999 = {5, 104, 3, 2, 2, 20, 208};
        int[] doubts = {10, 5, 20, 25, 50, 0, 1};
        int[] trusts = {1, 2, 1, 0, 0, 3, 2};
        for (int kind = 0; kind < 7; kind++) {
            x.change(0, 0, kind);
            x.change(0, 2, 5);
            due.is("bears of kind " + kind, x.of(0, 5), bearsAt5[kind]);
            x.change(0, 2, 999);
            due.is("bears of kind " + kind + " that wants 999", x.of(0, 5), bearsAt999[kind]);
            due.is("doubts of kind " + kind, x.of(0, 6), doubts[kind]);
            due.is("trusts of kind " + kind, x.of(0, 7), trusts[kind]);
        }
        x.change(0, 0, 4);
        x.change(0, 3, 20);
        due.is("bears of a doubter that believes 20", x.of(0, 5), 2);
        x.change(0, 3, 19);
        due.is("bears of a doubter that believes 19", x.of(0, 5), 1);
        x.change(0, 0, 3);
        due.is("bears of a professor that believes 19", x.of(0, 5), 2);
        x.change(0, 0, 1);
        x.change(0, 2, 9);
        due.is("bears of a mill that wants 9", x.of(0, 5), 5);
        x.change(0, 2, 10);
        due.is("bears of a mill that wants 10", x.of(0, 5), 6);
    }

    private static void change() {
        ValveRiver x = new ValveRiver();
        due.is("change(0, 1, 3) of nobody", x.change(0, 1, 3), Due.BEYOND);
        x.watcher(2, 3);
        int[] were = {2, 3, 5, 50, 0};
        int[] most = {6, 11, 999, 99, 9999};
        for (int what = 0; what < 5; what++) {
            due.is("change to the most of " + what, x.change(0, what, most[what]), were[what]);
            due.is("change to the least of " + what, x.change(0, what, 0), most[what]);
            due.is("change beyond " + what, x.change(0, what, most[what] + 1), Due.BEYOND);
            due.is("change below " + what, x.change(0, what, -1), Due.BEYOND);
            due.is("of(0, " + what + ")", x.of(0, what), 0);
        }
        due.is("change(0, 5, 0)", x.change(0, 5, 0), Due.BEYOND);
        due.is("change(0, -1, 0)", x.change(0, -1, 0), Due.BEYOND);
        due.is("change(1, 0, 0)", x.change(1, 0, 0), Due.BEYOND);
        due.is("change(-1, 0, 0)", x.change(-1, 0, 0), Due.BEYOND);
    }

    private static void go() {
        ValveRiver x = new ValveRiver();
        x.level(0, 5);
        x.level(1, 8);
        x.level(11, 7);
        x.plan(0, 20);
        x.plan(1, 30);
        due.is("go(1)", x.go(1), 0);
        // 5 - 2 + 20; 8 - 4 + 2; 4; and 7 - 3, of which 3 came to the sea
        due.is("stands(0)", x.stands(0), 23);
        due.is("stands(1)", x.stands(1), 6);
        due.is("stands(2)", x.stands(2), 4);
        due.is("stands(11)", x.stands(11), 4);
        due.is("now(2)", x.now(2), 3);
        due.is("now(0)", x.now(0), 1);
        due.is("go(1)", x.go(1), 0);
        due.is("stands(0)", x.stands(0), 42);
        due.is("stands(1)", x.stands(1), 14);
        due.is("go(0)", x.go(0), Due.BEYOND);
        due.is("go(81)", x.go(81), Due.BEYOND);
        due.is("go(-1)", x.go(-1), Due.BEYOND);
        due.is("now(0)", x.now(0), 2);
        x.steady(0);
        x.plan(0, 50);
        for (int cell = 0; cell < 12; cell++) {
            x.level(cell, 0);
        }
        due.is("go(6)", x.go(6), 0);
        due.is("levels ahead of hour 8", x.now(1), 0);
        x.go(1);
        due.is("levels behind hour 8, which is hour 0 of a day", x.stands(0), 50);
        due.is("go(80)", x.go(80), 0);
        due.is("now(0)", x.now(0), 89);
        for (int cell = 0; cell < 12; cell++) {
            x.level(cell, 9999);
        }
        x.go(1);
        due.is("a full cell below a full one", x.stands(5), 9999);
        due.is("a full first one", x.stands(0), 5000);
    }

    private static void believing() {
        ValveRiver x = new ValveRiver();
        x.steady(0);
        x.watcher(0, 0);
        x.change(0, 2, 0);
        // From 10 half goes: it differs by 5, which a watcher bears; from 12 by 6.
        x.level(0, 10);
        x.go(1);
        due.is("belief behind a change by 5", x.of(0, 3), 51);
        x.level(0, 12);
        x.go(1);
        due.is("belief behind a change by 6", x.of(0, 3), 41);
        x.change(0, 3, 10);
        x.level(0, 12);
        due.is("go(1) by which it knows", x.go(1), 1);
        due.is("belief is no less than 0", x.of(0, 3), 0);
        x.level(0, 0);
        due.is("go(1) with one that knows", x.go(1), 1);
        due.is("it knows still", x.of(0, 3), 0);
        x.change(0, 3, 3);
        x.level(0, 12);
        x.go(1);
        due.is("3 less 10", x.of(0, 3), 0);
        x.change(0, 0, 5);
        x.change(0, 3, 98);
        x.level(0, 0);
        x.go(1);
        due.is("98 and 3", x.of(0, 3), 99);
        x.level(0, 100);
        x.go(1);
        due.is("a fish beyond what it bears", x.of(0, 3), 99);
        x.change(0, 3, 50);
        x.change(0, 2, 999);
        x.level(0, 10);
        x.go(1);
        due.is("belief with less than it wants", x.of(0, 3), 50);
        x.change(0, 2, 5);
        x.level(0, 10);
        x.go(1);
        due.is("belief with just what it wants", x.of(0, 3), 53);
        ValveRiver rising = new ValveRiver();
        rising.steady(6);
        rising.watcher(0, 0);
        rising.go(1);
        due.is("belief behind a rise by 6", rising.of(0, 3), 40);
        ValveRiver wary = new ValveRiver();
        wary.steady(2);
        wary.watcher(4, 0);
        wary.change(0, 2, 0);
        wary.change(0, 3, 19);
        due.is("a doubter below 20 bears 1", wary.go(1), 1);
        ValveRiver calm = new ValveRiver();
        calm.steady(2);
        calm.watcher(4, 0);
        calm.change(0, 3, 20);
        due.is("a doubter of 20 bears 2", calm.go(1), 0);
    }

    private static void thirst() {
        ValveRiver x = new ValveRiver();
        x.steady(0);
        x.watcher(0, 3);
        x.go(3);
        due.is("thirst of 3 hours", x.of(0, 4), 3);
        x.change(0, 3, 0);
        x.go(1);
        due.is("thirst of one that knows", x.of(0, 4), 4);
        x.change(0, 4, 9998);
        x.go(5);
        due.is("thirst at most", x.of(0, 4), 9999);
        x.change(0, 4, 7);
        x.level(3, 10);
        x.go(1);
        due.is("thirst with just what it wants", x.of(0, 4), 7);
    }

    private static void sea() {
        ValveRiver x = new ValveRiver();
        for (int i = 0; i < 200; i++) {
            x.level(11, 9999);
            x.go(1);
        }
        due.is("the sea of 200 times 4999", x.now(2), 999800);
        x.level(11, 398);
        x.go(1);
        due.is("the sea of 199 more", x.now(2), 999999);
        x.level(11, 9999);
        x.go(1);
        due.is("the sea is at most", x.now(2), 999999);
    }

    private static void now() {
        ValveRiver x = new ValveRiver();
        x.watcher(0, 0);
        x.watcher(1, 5);
        x.watcher(5, 5);
        x.change(1, 3, 0);
        x.change(2, 3, 7);
        x.change(2, 2, 0);
        x.level(0, 5);
        x.level(11, 30);
        x.plan(2, 40);
        x.go(2);
        // Of 30 and 15 at cell 11, 15 and 7 came to the sea: 5 + 30 + 20 - 22 are left.
        // At cell 0: 8 more is too much for a watcher: 40; then 4 more: 41. The fish: 7 + 3 + 3.
        int[] answers = {2, 33, 22, 2, 2, 54, 110};
        for (int what = 0; what < 7; what++) {
            due.is("now(" + what + ")", x.now(what), answers[what]);
        }
        due.is("now(7)", x.now(7), Due.BEYOND);
        due.is("now(-1)", x.now(-1), Due.BEYOND);
    }
}
