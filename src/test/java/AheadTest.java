/** Promises 12 to 22: what will be; what to open. */
public final class AheadTest {
    private static final Due due = new Due();

    public static void main(String[] args) {
        ahead();
        belief();
        whenAndFirst();
        twoHundredHours();
        reaches();
        range();
        enough();
        hide();
        safe();
        sleep();
        turns();
        due.end();
    }

    /** Every cell gives 10 and gets 10. */
    private static ValveRiver even() {
        ValveRiver x = new ValveRiver();
        for (int cell = 0; cell < 12; cell++) {
            x.level(cell, 20);
        }
        return x;
    }

    /** A poet who knows as soon as anything differs by more than 3. */
    private static void wakefulPoet(ValveRiver x, int cell) {
        int number = x.watcher(2, cell);
        x.change(number, 3, 20);
        x.change(number, 2, 999);
    }

    private static void ahead() {
        ValveRiver x = new ValveRiver();
        int[] first = {0, 10, 15, 18, 19, 20, 20};
        int[] second = {0, 0, 5, 10, 14, 16, 18};
        for (int n = 0; n < first.length; n++) {
            due.is("ahead(0, " + n + ")", x.ahead(0, n), first[n]);
            due.is("ahead(1, " + n + ")", x.ahead(1, n), second[n]);
        }
        due.is("ahead(0, 100)", x.ahead(0, 100), 20);
        due.is("ahead(11, 100)", x.ahead(11, 100), 20);
        due.is("ahead(0, 101)", x.ahead(0, 101), Due.BEYOND);
        due.is("ahead(0, -1)", x.ahead(0, -1), Due.BEYOND);
        due.is("ahead(12, 0)", x.ahead(12, 0), Due.BEYOND);
        due.is("ahead(-1, 0)", x.ahead(-1, 0), Due.BEYOND);
        due.is("now(0) still", x.now(0), 0);
        due.is("now(1) still", x.now(1), 0);
        due.is("now(2) still", x.now(2), 0);
        x.plan(2, 50);
        x.go(2);
        due.is("ahead(0, 1) at hour 2", x.ahead(0, 1), 58);
    }

    private static void belief() {
        ValveRiver x = new ValveRiver();
        due.is("belief of nobody", x.belief(0, 3, 0), Due.BEYOND);
        x.watcher(0, 0);
        x.watcher(0, 11);
        int[] beliefs = {50, 40, 41, 42};
        for (int n = 0; n < 4; n++) {
            due.is("belief(0, 3, " + n + ")", x.belief(0, 3, n), beliefs[n]);
            due.is("belief(0, 4, " + n + ")", x.belief(0, 4, n), 0);
            due.is("belief(1, 3, " + n + ")", x.belief(1, 3, n), 50);
            due.is("belief(1, 4, " + n + ")", x.belief(1, 4, n), n);
        }
        due.is("belief(0, 3, 100)", x.belief(0, 3, 100), 99);
        due.is("belief(0, 3, 101)", x.belief(0, 3, 101), Due.BEYOND);
        due.is("belief(0, 3, -1)", x.belief(0, 3, -1), Due.BEYOND);
        due.is("belief(0, 2, 1)", x.belief(0, 2, 1), Due.BEYOND);
        due.is("belief(0, 5, 1)", x.belief(0, 5, 1), Due.BEYOND);
        due.is("belief(2, 3, 1)", x.belief(2, 3, 1), Due.BEYOND);
        due.is("belief(-1, 3, 1)", x.belief(-1, 3, 1), Due.BEYOND);
        due.is("of(0, 3) still", x.of(0, 3), 50);
        due.is("of(1, 4) still", x.of(1, 4), 0);
    }

    private static void whenAndFirst() {
        ValveRiver x = new ValveRiver();
        due.is("when of nobody", x.when(0), Due.BEYOND);
        due.is("first of nobody", x.first(), Due.NONE);
        x.watcher(0, 0);
        due.is("when(0) of one who trusts on", x.when(0), Due.NONE);
        due.is("first()", x.first(), Due.NONE);
        x.change(0, 3, 10);
        due.is("when(0)", x.when(0), 1);
        due.is("first()", x.first(), 0);
        x.watcher(4, 0);
        due.is("first() of two in the same hour", x.first(), 0);
        x.change(0, 3, 11);
        due.is("when(1)", x.when(1), 1);
        due.is("first() of a later number", x.first(), 1);
        x.watcher(0, 9);
        x.change(2, 3, 0);
        due.is("when(2) of one who knows", x.when(2), 0);
        due.is("first() with one who knows", x.first(), 2);
        due.is("when(3)", x.when(3), Due.BEYOND);
        due.is("when(-1)", x.when(-1), Due.BEYOND);
        due.is("status(3)", x.status(3), 3);
        due.is("now(3) still", x.now(3), 4);
    }

    /** A bridge that wants 40 and never has it bears 18: once a day there is too much for it. */
    private static void twoHundredHours() {
        ValveRiver x = new ValveRiver();
        x.steady(0);
        x.plan(7, 20);
        x.watcher(6, 0);
        x.change(0, 2, 40);
        x.change(0, 3, 25);
        due.is("when(0) just in time", x.when(0), 200);
        due.is("first() just in time", x.first(), 0);
        x.go(7);
        x.change(0, 3, 26);
        due.is("when(0) an hour too late", x.when(0), Due.NONE);
        due.is("first() an hour too late", x.first(), Due.NONE);
        x.go(1);
        due.is("when(0) an hour on", x.when(0), 200);
    }

    private static void reaches() {
        ValveRiver x = new ValveRiver();
        due.is("reaches(0, 0)", x.reaches(0, 0), 0);
        due.is("reaches(0, 10)", x.reaches(0, 10), 1);
        due.is("reaches(0, 11)", x.reaches(0, 11), 2);
        due.is("reaches(0, 20)", x.reaches(0, 20), 5);
        due.is("reaches(0, 21)", x.reaches(0, 21), Due.NONE);
        due.is("reaches(1, 14)", x.reaches(1, 14), 4);
        due.is("reaches(0, 9999)", x.reaches(0, 9999), Due.NONE);
        due.is("reaches(0, 10000)", x.reaches(0, 10000), Due.BEYOND);
        due.is("reaches(0, -1)", x.reaches(0, -1), Due.BEYOND);
        due.is("reaches(12, 0)", x.reaches(12, 0), Due.BEYOND);
        due.is("reaches(-1, 0)", x.reaches(-1, 0), Due.BEYOND);
        x.level(10, 2);
        due.is("reaches(11, 1)", x.reaches(11, 1), 1);
        x.level(0, 9999);
        due.is("reaches(0, 9999) at once", x.reaches(0, 9999), 0);
        due.is("now(0) still", x.now(0), 0);
        // One comes in a day, and stays alone in each cell till the next one comes there.
        ValveRiver slow = new ValveRiver();
        slow.steady(0);
        slow.plan(7, 1);
        due.is("reaches(11, 2) slowly", slow.reaches(11, 2), 115);
    }

    private static void range() {
        ValveRiver x = new ValveRiver();
        due.is("range(0, 3, 0)", x.range(0, 3, 0), 0);
        due.is("range(0, 3, 1)", x.range(0, 3, 1), 18);
        x.steady(0);
        x.level(0, 100);
        due.is("range(0, 0, 0)", x.range(0, 0, 0), 100);
        due.is("range(0, 2, 0)", x.range(0, 2, 0), 25);
        due.is("range(0, 2, 1)", x.range(0, 2, 1), 100);
        due.is("range(0, 100, 0)", x.range(0, 100, 0), 1);
        due.is("range(1, 100, 1)", x.range(1, 100, 1), 50);
        due.is("range(11, 100, 0)", x.range(11, 100, 0), 0);
        due.is("range(0, 101, 0)", x.range(0, 101, 0), Due.BEYOND);
        due.is("range(0, -1, 0)", x.range(0, -1, 0), Due.BEYOND);
        due.is("range(12, 0, 0)", x.range(12, 0, 0), Due.BEYOND);
        due.is("range(-1, 0, 0)", x.range(-1, 0, 0), Due.BEYOND);
        due.is("range(0, 0, 2)", x.range(0, 0, 2), Due.BEYOND);
        due.is("range(0, 0, -1)", x.range(0, 0, -1), Due.BEYOND);
        due.is("stands(0) still", x.stands(0), 100);
    }

    private static void enough() {
        ValveRiver x = new ValveRiver();
        due.is("enough(80) of nobody", x.enough(80), 0);
        x.watcher(0, 0);
        x.change(0, 2, 20);
        due.is("enough(80)", x.enough(80), 10);
        due.is("enough(1)", x.enough(1), 20);
        due.is("enough(0) of one who lacks", x.enough(0), Due.NONE);
        x.watcher(0, 1);
        due.is("enough(1) of one further down", x.enough(1), Due.NONE);
        due.is("enough(2) of one further down", x.enough(2), 13);
        x.change(1, 2, 0);
        x.change(0, 2, 198);
        due.is("enough(80) of 198", x.enough(80), 99);
        x.change(0, 2, 199);
        due.is("enough(80) of 199", x.enough(80), Due.NONE);
        x.change(0, 2, 0);
        due.is("enough(0) of one who doesn't", x.enough(0), 0);
        for (int want = 0; want <= 100; want++) {
            x.change(0, 2, want);
            due.is("enough(1) of " + want, x.enough(1), want == 100 ? Due.NONE : want);
        }
        due.is("enough(81)", x.enough(81), Due.BEYOND);
        due.is("enough(-1)", x.enough(-1), Due.BEYOND);
        due.is("now(6) still", x.now(6), 80);
        due.is("now(0) still", x.now(0), 0);
    }

    private static void hide() {
        ValveRiver x = even();
        wakefulPoet(x, 0);
        due.is("hide(50, 3)", x.hide(50, 3), 3);
        due.is("hide(50, 7)", x.hide(50, 7), 7);
        due.is("hide(50, 8)", x.hide(50, 8), 0);
        due.is("hide(10, 60)", x.hide(10, 60), 0);
        due.is("hide(99, 0)", x.hide(99, 0), 0);
        wakefulPoet(x, 1);
        due.is("hide(50, 8) from the one further down", x.hide(50, 8), 7);
        ValveRiver known = even();
        for (int i = 0; i < 7; i++) {
            known.watcher(0, 0);
            known.change(i, 3, 0);
        }
        wakefulPoet(known, 0);
        due.is("hide(50, 3) from the last one", known.hide(50, 3), 3);
        due.is("hide(100, 0)", x.hide(100, 0), Due.BEYOND);
        due.is("hide(-1, 0)", x.hide(-1, 0), Due.BEYOND);
        due.is("hide(0, 61)", x.hide(0, 61), Due.BEYOND);
        due.is("hide(0, -1)", x.hide(0, -1), Due.BEYOND);
        due.is("now(3) still", x.now(3), 0);
        due.is("now(6) still", x.now(6), 80);
    }

    private static void safe() {
        ValveRiver x = even();
        due.is("safe(0, 60) from nobody", x.safe(0, 60), 0);
        wakefulPoet(x, 0);
        due.is("safe(0, 1)", x.safe(0, 1), 7);
        due.is("safe(0, 0)", x.safe(0, 0), 0);
        due.is("safe(5, 5)", x.safe(5, 5), 0);
        due.is("safe(5, 6)", x.safe(5, 6), 7);
        due.is("safe(7, 7)", x.safe(7, 7), 0);
        due.is("safe(7, 8)", x.safe(7, 8), 7);
        x.plan(1, 60);
        due.is("safe(0, 2) when it shows all the same", x.safe(0, 2), Due.NONE);
        due.is("safe(1, 2)", x.safe(1, 2), 7);
        x.change(0, 3, 0);
        due.is("safe(0, 60) with one who knows", x.safe(0, 60), 0);
        x.change(0, 3, 20);
        x.level(0, 204);
        due.is("safe(0, 1) with all that there is", x.safe(0, 1), 99);
        x.level(0, 206);
        due.is("safe(0, 1) with more than there is", x.safe(0, 1), Due.NONE);
        due.is("safe(8, 0)", x.safe(8, 0), Due.BEYOND);
        due.is("safe(-1, 0)", x.safe(-1, 0), Due.BEYOND);
        due.is("safe(0, 61)", x.safe(0, 61), Due.BEYOND);
        due.is("safe(0, -1)", x.safe(0, -1), Due.BEYOND);
        due.is("now(6) still", x.now(6), 130);
    }

    private static void sleep() {
        ValveRiver near = even();
        wakefulPoet(near, 0);
        due.is("sleep(0) near", near.sleep(0), 0);
        due.is("sleep(20) near", near.sleep(20), 0);
        near.plan(0, 90);
        due.is("sleep(0) ahead of a flood", near.sleep(0), 0);
        due.is("sleep(1) ahead of a flood", near.sleep(1), Due.NONE);
        near.change(0, 3, 0);
        due.is("sleep(20) with one who knows", near.sleep(20), 60);
        // At cell 2: 20 20 20 17 14, and 10 in the fifth hour if it is shut for 3.
        ValveRiver far = even();
        wakefulPoet(far, 2);
        due.is("sleep(0) far", far.sleep(0), 4);
        due.is("sleep(1) far", far.sleep(1), 3);
        due.is("sleep(20) far", far.sleep(20), 2);
        due.is("now(0) still", far.now(0), 0);
        // Dry, but for a flood each morning: longer is better here.
        ValveRiver dry = new ValveRiver();
        dry.steady(0);
        dry.plan(0, 90);
        wakefulPoet(dry, 0);
        due.is("sleep(1) dry", dry.sleep(1), 60);
        due.is("sleep(7) dry", dry.sleep(7), 57);
        due.is("sleep(8) dry", dry.sleep(8), Due.NONE);
        due.is("sleep(21)", dry.sleep(21), Due.BEYOND);
        due.is("sleep(-1)", dry.sleep(-1), Due.BEYOND);
    }

    private static void turns() {
        ValveRiver x = new ValveRiver();
        due.is("turns() of an even plan", x.turns(), 0);
        x.plan(0, 5);
        due.is("turns() with hour 0", x.turns(), 2);
        x.plan(7, 5);
        due.is("turns() with hour 7", x.turns(), 2);
        x.plan(3, 6);
        due.is("turns() with hour 3", x.turns(), 4);
        for (int hour = 0; hour < 8; hour++) {
            x.plan(hour, hour);
        }
        due.is("turns() of all", x.turns(), 8);
    }
}
