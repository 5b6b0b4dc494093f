/** The boundary cases of promises 1 to 22 that are answered: the last numbers that are allowed, at both ends. */
public final class RiverEdgesTest {
    private static final Due due = new Due();

    public static void main(String[] args) {
        newObject();
        level();
        stands();
        plan();
        opening();
        steady();
        watcher();
        of();
        change();
        go();
        now();
        ahead();
        belief();
        when();
        first();
        reaches();
        range();
        enough();
        hide();
        safe();
        sleep();
        sleepLetsNothingIn();
        turns();
        due.end();
    }

    /** "All as at first; no WATCHERS; THE TAPE is empty, no image is kept." */
    private static void newObject() {
        ValveRiver x = new ValveRiver();
        int[] now = {0, 0, 0, 0, 0, 0, 80};
        for (int what = 0; what < 7; what++) {
            due.is("1: now(" + what + ")", x.now(what), now[what]);
        }
        int[] count = {0, 0, 0, 0, 0, 0, 1, 0};
        for (int what = 0; what < 8; what++) {
            due.is("1: count(" + what + ")", x.count(what), count[what]);
        }
        due.is("1: no finding yet", x.status(-1), 0);
        due.is("1: no watcher 0", x.of(0, 0), Due.BEYOND);
        due.is("1: the tape is empty", x.wipe(), 0);
        due.is("1: it is no text", x.text(), -1);
        due.is("1: nothing to tear", x.tear(), 0);
        due.is("1: nothing to undo", x.undo(), Due.NONE);
        for (int s = 0; s < 4; s++) {
            due.is("1: sheet " + s + " is missing", x.load(s), Due.MISSING);
        }
        for (int spot = 0; spot < 10; spot++) {
            due.is("1: spot " + spot + " holds nothing", x.as(spot, 0), Due.MISSING);
        }
    }

    private static void level() {
        ValveRiver x = new ValveRiver();
        for (int cell = 0; cell < 12; cell += 11) {
            due.is("2: to the most, from 0", x.level(cell, 9999), 0);
            due.is("2: to 0, from the most", x.level(cell, 0), 9999);
            due.is("2: to 0, from 0", x.level(cell, 0), 0);
            due.is("2: to 1 more than the least", x.level(cell, 1), 0);
            due.is("2: to 1 less than the most", x.level(cell, 9998), 1);
        }
        due.is("2: the two of them, and no other", x.now(1), 2 * 9998);
    }

    private static void stands() {
        ValveRiver x = new ValveRiver();
        x.level(0, 9999);
        x.level(11, 1);
        due.is("3: the first cell", x.stands(0), 9999);
        due.is("3: the last cell", x.stands(11), 1);
        due.is("3: one between", x.stands(10), 0);
    }

    private static void plan() {
        ValveRiver x = new ValveRiver();
        for (int hour = 0; hour < 8; hour += 7) {
            due.is("4: to the most, from 10", x.plan(hour, 99), 10);
            due.is("4: to 0, from the most", x.plan(hour, 0), 99);
            due.is("4: to 0, from 0", x.plan(hour, 0), 0);
        }
        due.is("4: the two of them, and no other", x.now(6), 60);
    }

    private static void opening() {
        ValveRiver x = new ValveRiver();
        x.plan(0, 0);
        x.plan(7, 99);
        due.is("5: the first hour", x.opening(0), 0);
        due.is("5: the last hour", x.opening(7), 99);
        due.is("5: one between", x.opening(6), 10);
    }

    private static void steady() {
        ValveRiver x = new ValveRiver();
        due.is("6: to the most", x.steady(99), 80);
        due.is("6: to 0", x.steady(0), 8 * 99);
        due.is("6: to 0 again", x.steady(0), 0);
        for (int hour = 0; hour < 8; hour++) {
            due.is("6: hour " + hour, x.opening(hour), 0);
        }
    }

    /** "WATCHERS 0, 1, .. (at most 8)" */
    private static void watcher() {
        ValveRiver x = new ValveRiver();
        due.is("7: the first kind at the first cell", x.watcher(0, 0), 0);
        due.is("7: the last kind at the last cell", x.watcher(6, 11), 1);
        due.is("7: the first kind at the last cell", x.watcher(0, 11), 2);
        due.is("7: the last kind at the first cell", x.watcher(6, 0), 3);
        for (int number = 4; number < 8; number++) {
            due.is("7: up to 8", x.watcher(3, 5), number);
        }
        due.is("7: a 9th", x.watcher(3, 5), Due.FULL);
        due.is("7: there are 8", x.count(1), 8);
        due.is("7: kind of 1", x.of(1, 0), 6);
        due.is("7: cell of 2", x.of(2, 1), 11);
    }

    private static void of() {
        ValveRiver x = Rivers.full();
        x.change(7, 2, 999);
        // Watcher 0 is a WATCHER at cell 4 that knows; watcher 7 one at cell 11.
        int[] first = {0, 4, 5, 0, 0, 5, 10, 1};
        int[] last = {0, 11, 999, 70, 0, 5, 10, 1};
        for (int what = 0; what < 8; what++) {
            due.is("8: what " + what + " of the first", x.of(0, what), first[what]);
            due.is("8: what " + what + " of the last", x.of(7, what), last[what]);
        }
    }

    private static void change() {
        int[] most = {6, 11, 999, 99, 9999};
        for (int watcher = 0; watcher < 8; watcher += 7) {
            for (int what = 0; what < 5; what++) {
                ValveRiver x = Rivers.full();
                int was = x.of(watcher, what);
                due.is("9: what " + what + " to 0", x.change(watcher, what, 0), was);
                due.is("9: what " + what + " to its most", x.change(watcher, what, most[what]), 0);
                due.is("9: what " + what + " to its most again", x.change(watcher, what, most[what]), most[what]);
                due.is("9: what " + what + " is so", x.of(watcher, what), most[what]);
            }
        }
    }

    private static void go() {
        ValveRiver x = new ValveRiver();
        due.is("10: the fewest", x.go(1), 0);
        due.is("10: one hour", x.now(0), 1);
        due.is("10: the most", x.go(80), 0);
        due.is("10: 81 hours", x.now(0), 81);
        ValveRiver wearing = Rivers.dryBut(7, 50);
        Rivers.wearingBridge(wearing, 0, 10);
        wearing.image();
        due.is("10: known just in the 80th hour", wearing.go(80), 1);
        wearing.undo();
        due.is("10: not in the 79th", wearing.go(79), 0);
    }

    private static void now() {
        ValveRiver x = Rivers.full();
        // 8 watchers that believe 0, 10, .. 70, in full cells.
        int[] full = {0, 12 * 9999, 0, 1, 0, 280, 8 * 99};
        for (int what = 0; what < 7; what++) {
            due.is("11: now(" + what + ") of a full one", x.now(what), full[what]);
        }
        x.steady(0);
        for (int i = 0; i < 8; i++) {
            x.change(i, 3, 99);
            x.level(i + 4, 0);
        }
        due.is("11: belief of all at its most", x.now(5), 8 * 99);
        due.is("11: openings at their least", x.now(6), 0);
        due.is("11: all lack", x.now(4), 255);
    }

    /** One that is let in at hour 0 each day comes to cell 11 just in the 100th hour. */
    private static void ahead() {
        ValveRiver x = Rivers.dryBut(0, 1);
        due.is("12: behind 0 hours", x.ahead(0, 0), 0);
        due.is("12: behind 1 hour", x.ahead(0, 1), 1);
        due.is("12: behind 99 hours", x.ahead(11, 99), 0);
        due.is("12: behind 100 hours", x.ahead(11, 100), 1);
        x.level(11, 9999);
        due.is("12: behind 0 hours it is as it is", x.ahead(11, 0), 9999);
    }

    private static void belief() {
        ValveRiver x = Rivers.dryBut(3, 50);
        Rivers.wearingBridge(x, 0, 99);
        due.is("13: belief behind 0 hours", x.belief(0, 3, 0), 99);
        due.is("13: belief behind 3 hours", x.belief(0, 3, 3), 99);
        due.is("13: belief behind 4 hours", x.belief(0, 3, 4), 98);
        due.is("13: belief behind 99 hours", x.belief(0, 3, 99), 87);
        due.is("13: belief behind 100 hours", x.belief(0, 3, 100), 86);
        due.is("13: thirst behind 0 hours", x.belief(0, 4, 0), 0);
        due.is("13: thirst behind 1 hour", x.belief(0, 4, 1), 1);
        due.is("13: thirst behind 100 hours", x.belief(0, 4, 100), 100);
        x.change(0, 3, 0);
        due.is("13: belief of one that knows", x.belief(0, 3, 100), 0);
        for (int i = 1; i < 8; i++) {
            x.watcher(5, 0);
        }
        x.change(7, 2, 0);
        due.is("13: belief of the last one", x.belief(7, 3, 1), 53);
    }

    /** "(0 to 200, the fewest)" */
    private static void when() {
        ValveRiver x = Rivers.dryBut(7, 50);
        Rivers.wearingBridge(x, 0, 25);
        due.is("14: in the 200th hour", x.when(0), 200);
        x.change(0, 3, 26);
        due.is("14: too late by a day", x.when(0), Due.NONE);
        x.change(0, 3, 0);
        due.is("14: now", x.when(0), 0);
        x.change(0, 3, 1);
        due.is("14: the fewest, of a day", x.when(0), 8);
        ValveRiver late = Rivers.dryBut(0, 50);
        Rivers.wearingBridge(late, 0, 26);
        due.is("14: in hour 201", late.when(0), Due.NONE);
        late.change(0, 3, 25);
        due.is("14: in hour 193", late.when(0), 193);
        ValveRiver last = Rivers.full();
        last.change(7, 3, 0);
        due.is("14: the last one", last.when(7), 0);
    }

    /** "(200 HOURS at most)", and the least number of those that know as soon. */
    private static void first() {
        ValveRiver x = Rivers.dryBut(7, 50);
        due.is("15: nobody", x.first(), Due.NONE);
        Rivers.wearingBridge(x, 0, 25);
        due.is("15: in the 200th hour", x.first(), 0);
        x.change(0, 3, 26);
        due.is("15: too late", x.first(), Due.NONE);
        ValveRiver late = Rivers.dryBut(0, 50);
        Rivers.wearingBridge(late, 0, 26);
        due.is("15: in hour 201", late.first(), Due.NONE);
        ValveRiver many = new ValveRiver();
        many.steady(0);
        for (int i = 0; i < 8; i++) {
            many.watcher(0, 11);
        }
        due.is("15: nobody of 8", many.first(), Due.NONE);
        many.change(7, 3, 0);
        due.is("15: the last of 8", many.first(), 7);
        many.change(3, 3, 0);
        due.is("15: the least of two that know", many.first(), 3);
        many.change(0, 3, 0);
        due.is("15: the first of 8", many.first(), 0);
        ValveRiver same = Rivers.dryBut(0, 50);
        same.watcher(5, 0);
        Rivers.wearingBridge(same, 0, 1);
        Rivers.wearingBridge(same, 0, 1);
        due.is("15: the least of two in the same hour", same.first(), 1);
        same.change(0, 0, 4);
        same.change(0, 3, 51);
        due.is("15: a later one with a lesser number", same.first(), 1);
    }

    /** "(0 to 200, the fewest)": the bound itself is met by no river; all that rises has risen some 120 hours on. */
    private static void reaches() {
        ValveRiver x = Rivers.dryBut(0, 1);
        due.is("16: 0 is there always", x.reaches(0, 0), 0);
        due.is("16: 0 is there always, at the end", x.reaches(11, 0), 0);
        due.is("16: in the first hour", x.reaches(0, 1), 1);
        due.is("16: two in the first hour of the next day", x.reaches(0, 2), 9);
        due.is("16: never three", x.reaches(0, 3), Due.NONE);
        due.is("16: in the 100th hour", x.reaches(11, 1), 100);
        due.is("16: a day later", x.reaches(11, 2), 108);
        due.is("16: never three at the end", x.reaches(11, 3), Due.NONE);
        due.is("16: never the most", x.reaches(11, 9999), Due.NONE);
        x.level(11, 9999);
        due.is("16: the most now", x.reaches(11, 9999), 0);
        x.level(11, 9998);
        due.is("16: one less than the most", x.reaches(11, 9999), Due.NONE);
        due.is("16: or more", x.reaches(11, 9997), 0);
        ValveRiver late = new ValveRiver();
        int[] plan = {8, 8, 9, 8, 8, 8, 8, 8};
        int[] levels = {4, 2, 0, 68, 1, 6, 9, 8, 2, 14, 8, 8};
        for (int cell = 0; cell < 12; cell++) {
            late.level(cell, levels[cell]);
            late.plan(cell % 8, plan[cell % 8]);
        }
        due.is("16: the latest that was found", late.reaches(11, 18), 118);
        due.is("16: one more than ever comes there", late.reaches(11, 19), Due.NONE);
    }

    private static void range() {
        ValveRiver x = Rivers.dryBut(0, 1);
        due.is("17: the greatest behind 0 hours", x.range(0, 0, 1), 0);
        due.is("17: the greatest behind 1 hour", x.range(0, 1, 1), 1);
        due.is("17: the greatest behind 99 hours", x.range(11, 99, 1), 0);
        due.is("17: the greatest behind 100 hours", x.range(11, 100, 1), 1);
        x.level(0, 9999);
        due.is("17: now counts for the greatest", x.range(0, 100, 1), 9999);
        // All give 10 and keep 11; 9 instead of 10 at hour 0 comes to cell 11 in the 100th hour.
        ValveRiver falling = Rivers.even();
        for (int cell = 0; cell < 12; cell++) {
            falling.level(cell, 21);
        }
        falling.plan(0, 9);
        due.is("17: the least behind 0 hours", falling.range(11, 0, 0), 21);
        due.is("17: the least behind 99 hours", falling.range(11, 99, 0), 21);
        due.is("17: the least behind 100 hours", falling.range(11, 100, 0), 20);
        falling.level(11, 0);
        due.is("17: now counts for the least", falling.range(11, 100, 0), 0);
    }

    private static void enough() {
        ValveRiver x = new ValveRiver();
        due.is("18: nobody lacks, now", x.enough(0), 0);
        due.is("18: nobody lacks, behind 80 hours", x.enough(80), 0);
        x.watcher(0, 0);
        x.change(0, 2, 0);
        due.is("18: one that wants 0", x.enough(80), 0);
        x.change(0, 2, 1);
        due.is("18: one that lacks now", x.enough(0), Due.NONE);
        x.level(0, 1);
        due.is("18: one that has it just now", x.enough(0), 0);
        x.level(0, 0);
        due.is("18: the least", x.enough(80), 1);
        x.change(0, 2, 198);
        due.is("18: the most", x.enough(80), 99);
        x.change(0, 2, 199);
        due.is("18: more than the most", x.enough(80), Due.NONE);
        x.change(0, 2, 99);
        due.is("18: the most behind an hour", x.enough(1), 99);
        x.change(0, 2, 100);
        due.is("18: more than the most behind an hour", x.enough(1), Due.NONE);
        x.change(0, 2, 20);
        x.watcher(0, 11);
        x.change(1, 2, 100);
        due.is("18: for all of them", x.enough(80), 50);
        x.change(1, 3, 0);
        due.is("18: whether they know or not", x.enough(80), 50);
    }

    /** A bridge that believes 8, and hours of which the first four come 8 times in 60 hours, the rest 7 times. */
    private static void hide() {
        ValveRiver x = Rivers.dryBut(0, 0);
        due.is("19: from nobody, at the least", x.hide(0, 0), 0);
        due.is("19: from nobody, at the most", x.hide(99, 60), 0);
        Rivers.wearingBridge(x, 0, 8);
        due.is("19: behind 60 hours", x.hide(50, 60), 4);
        due.is("19: behind 59 hours", x.hide(50, 59), 3);
        due.is("19: with what is borne just so", x.hide(30, 60), 0);
        due.is("19: with one more", x.hide(31, 60), 4);
        due.is("19: with nothing", x.hide(0, 60), 0);
        // With 99 the fall behind it is seen, too: 8 and 7 times, if it is hour 3.
        x.change(0, 3, 16);
        due.is("19: with the most", x.hide(99, 60), 3);
        x.change(0, 3, 1);
        for (int hour = 0; hour < 8; hour++) {
            due.is("19: the first hour that isn't there yet", x.hide(50, hour), hour);
        }
        due.is("19: no hour is better", x.hide(50, 8), 0);
        for (int i = 1; i < 8; i++) {
            x.watcher(5, 11);
            x.change(i, 3, 0);
        }
        due.is("19: from the last one that doesn't know", x.hide(50, 7), 7);
        x.change(0, 3, 0);
        due.is("19: from nobody, as all know", x.hide(50, 7), 0);
    }

    /** Half of 100 and 50 make 100 again; with less than 20 a bridge sees it, once a day. */
    private static void safe() {
        ValveRiver x = new ValveRiver();
        due.is("20: from nobody", x.safe(0, 0), 0);
        due.is("20: from nobody for long", x.safe(7, 60), 0);
        x.steady(50);
        x.level(0, 100);
        Rivers.wearingBridge(x, 0, 8);
        due.is("20: seen 8 times in 60 hours", x.safe(3, 60), 20);
        due.is("20: seen 7 times in 59 hours", x.safe(3, 59), 0);
        due.is("20: seen 7 times in 60 hours", x.safe(4, 60), 0);
        x.change(0, 3, 1);
        due.is("20: the last hour not yet there", x.safe(7, 7), 0);
        due.is("20: the last hour there", x.safe(7, 8), 20);
        due.is("20: behind 0 hours", x.safe(0, 0), 0);
        x.level(0, 258);
        due.is("20: the most", x.safe(0, 1), 99);
        x.level(0, 260);
        due.is("20: more than the most", x.safe(0, 1), Due.NONE);
        x.change(0, 3, 0);
        due.is("20: one that knows now is no matter", x.safe(0, 60), 0);
    }

    private static void sleep() {
        ValveRiver x = Rivers.dryBut(7, 50);
        due.is("21: nobody, and no more hours", x.sleep(0), 60);
        due.is("21: nobody, and 20 more", x.sleep(20), 60);
        Rivers.wearingBridge(x, 0, 3);
        // Of 20 hours behind 60 three are hour 7; of 20 behind 59 two, and of 19 behind 60.
        due.is("21: 20 more", x.sleep(20), 59);
        due.is("21: 19 more", x.sleep(19), 60);
        x.change(0, 3, 0);
        due.is("21: one that knows is no matter", x.sleep(20), 60);
        x.change(0, 3, 1);
        due.is("21: hour 7 is near in any 8 hours", x.sleep(8), Due.NONE);
        due.is("21: not in 7, from hour 56 on", x.sleep(7), 56);
        due.is("21: shut all the time", x.sleep(0), 60);
        ValveRiver fed = new ValveRiver();
        fed.steady(50);
        fed.level(0, 100);
        Rivers.wearingBridge(fed, 0, 1);
        due.is("21: not an hour", fed.sleep(0), 0);
        due.is("21: not an hour, and 20 more", fed.sleep(20), 0);
        fed.level(0, 200);
        due.is("21: not an hour, but that is no harm yet", fed.sleep(0), 0);
        due.is("21: nor 0", fed.sleep(1), Due.NONE);
    }

    /** A doubter that believes 19 bears 1: half of 4 is too much for it, half of 2 isn't, and 1 stays. */
    private static void sleepLetsNothingIn() {
        ValveRiver x = new ValveRiver();
        x.steady(99);
        x.watcher(4, 0);
        x.change(0, 2, 999);
        x.change(0, 3, 19);
        int[] levels = {0, 1, 2, 3, 4, 5};
        int[] most = {60, 60, 60, 60, 0, 0};
        for (int i = 0; i < levels.length; i++) {
            x.level(0, levels[i]);
            due.is("21: shut above " + levels[i], x.sleep(0), most[i]);
            due.is("21: open again above " + levels[i], x.sleep(1), Due.NONE);
        }
        due.is("21: the plan is as it was", x.now(6), 8 * 99);
    }

    private static void turns() {
        ValveRiver x = new ValveRiver();
        due.is("22: none", x.turns(), 0);
        x.plan(0, 11);
        due.is("22: hour 0 is another one than hour 7", x.turns(), 2);
        x.steady(10);
        x.plan(7, 11);
        due.is("22: hour 7 is another one than hour 6, and hour 0 than that", x.turns(), 2);
        for (int hour = 0; hour < 8; hour += 2) {
            x.plan(hour, 99);
        }
        for (int hour = 1; hour < 8; hour += 2) {
            x.plan(hour, 0);
        }
        due.is("22: all of them", x.turns(), 8);
        x.plan(7, 99);
        due.is("22: all but those two", x.turns(), 6);
    }
}
