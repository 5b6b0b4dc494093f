/** The boundary cases of promises 23 to 32 that are answered: watchers tried, what he opened, nights. */
public final class TrialsEdgesTest {
    private static final Due due = new Due();

    public static void main(String[] args) {
        seat();
        seatOfTheLastBelief();
        kindFor();
        kindForOfTheLastBelief();
        wantFor();
        wantForOfTheMostThirst();
        watch();
        fitsOfEmptyAndFullSheets();
        fitsNoneToAll();
        opened();
        anyInEachWidth();
        kindsOfEmptyAndFullSheets();
        kindsNoneToAll();
        nights();
        oddsOfNoDraws();
        oddsOfMostDraws();
        oddsOfNoHours();
        seed();
        due.end();
    }

    private static void seat() {
        ValveRiver x = Rivers.dryBut(0, 0);
        for (int i = 0; i < 8; i++) {
            x.watcher(0, 5);
        }
        x.level(11, 10);
        due.is("23: behind 0 hours all are alike: the least", x.seat(0, 0), 0);
        due.is("23: the last cell", x.seat(0, 1), 11);
        due.is("23: the last cell, of the last one", x.seat(7, 60), 11);
        x.level(0, 10);
        due.is("23: the first cell, of three alike", x.seat(7, 1), 0);
        x.level(11, 0);
        due.is("23: the first cell, of two alike", x.seat(0, 1), 0);
        x.change(0, 3, 0);
        due.is("23: one that knows has as little everywhere", x.seat(0, 60), 0);
        x.change(1, 3, 99);
        x.level(0, 99);
        due.is("23: one that believes all has no more anywhere: the first where nothing shows", x.seat(1, 1), 2);
        due.is("23: it is where it was", x.of(1, 1), 5);
        x.level(0, 0);
        for (int cell = 0; cell < 12; cell++) {
            x.level(cell, 10);
            due.is("23: cell " + cell, x.seat(7, 1), cell);
            x.level(cell, 0);
        }
    }

    /** Every cell rises or falls by 100 but cell 5, which gets as much as it gives: 1 is left there, 0 elsewhere. */
    private static void seatOfTheLastBelief() {
        ValveRiver x = Rivers.dryBut(0, 0);
        int[] levels = {200, 0, 200, 0, 200, 200, 0, 200, 0, 200, 0, 200};
        for (int cell = 0; cell < 12; cell++) {
            x.level(cell, levels[cell]);
        }
        x.watcher(0, 0);
        x.change(0, 2, 999);
        x.change(0, 3, 1);
        due.is("23: a belief of 1 is most where all else is 0", x.seat(0, 1), 5);
    }

    private static void kindFor() {
        ValveRiver x = Rivers.dryBut(0, 50);
        for (int i = 0; i < 8; i++) {
            x.watcher(4, 0);
        }
        due.is("24: behind 0 hours all are alike: the least", x.kindFor(0, 0), 0);
        // That it rises by 50 only a bridge could bear that wants 200; a fish doesn't mind.
        x.change(0, 2, 200);
        due.is("24: a fish and a bridge have as much: the least", x.kindFor(0, 1), 5);
        due.is("24: in 60 hours, too", x.kindFor(0, 60), 5);
        x.change(0, 2, 50);
        due.is("24: a fish, which bears no more, loses nothing", x.kindFor(0, 1), 5);
        ValveRiver calm = Rivers.even();
        calm.watcher(6, 0);
        due.is("24: a fish trusts most", calm.kindFor(0, 1), 5);
        calm.change(0, 3, 97);
        due.is("24: a mill trusts as much as is left", calm.kindFor(0, 1), 1);
        calm.change(0, 3, 98);
        due.is("24: a watcher trusts as much as is left", calm.kindFor(0, 1), 0);
        calm.change(0, 3, 0);
        due.is("24: one that knows", calm.kindFor(0, 60), 0);
        // It falls by 30 to 150: a bridge that wants 100 bears that just so, and trusts.
        ValveRiver bridge = Rivers.dryBut(0, 60);
        bridge.level(0, 180);
        bridge.watcher(0, 0);
        bridge.change(0, 2, 100);
        due.is("24: the last kind", bridge.kindFor(0, 1), 6);
        due.is("24: it is of the kind that it was", bridge.of(0, 0), 0);
    }

    private static void kindForOfTheLastBelief() {
        ValveRiver x = Rivers.dryBut(0, 99);
        x.watcher(0, 0);
        x.change(0, 3, 1);
        due.is("24: a fish of 1 keeps it, all else know", x.kindFor(0, 1), 5);
    }

    private static void wantFor() {
        ValveRiver x = Rivers.dryBut(0, 0);
        for (int i = 0; i < 8; i++) {
            x.watcher(0, 11);
        }
        due.is("25: behind 0 hours it never lacks", x.wantFor(0, 0), 999);
        due.is("25: where nothing is it may want nothing", x.wantFor(0, 60), 0);
        due.is("25: the last one", x.wantFor(7, 1), 0);
        x.level(11, 1);
        due.is("25: one stays there for ever", x.wantFor(7, 60), 1);
        int[] levels = {1995, 1996, 1997, 1998, 1999, 9999};
        int[] wants = {998, 998, 999, 999, 999, 999};
        for (int i = 0; i < levels.length; i++) {
            x.level(11, levels[i]);
            due.is("25: behind an hour, of " + levels[i], x.wantFor(0, 1), wants[i]);
        }
        x.level(11, 0);
        x.level(10, 9999);
        due.is("25: by each of the hours, not by now", x.wantFor(0, 1), 999);
        due.is("25: it wants what it wanted", x.of(0, 2), 5);
        x.change(0, 3, 0);
        x.level(10, 100);
        due.is("25: one that knows may thirst, too", x.wantFor(0, 1), 50);
    }

    private static void wantForOfTheMostThirst() {
        ValveRiver x = Rivers.dryBut(0, 0);
        x.watcher(0, 11);
        x.change(0, 4, 9998);
        due.is("25: thirst of 9998 can be more", x.wantFor(0, 60), 0);
        x.change(0, 4, 9999);
        due.is("25: thirst at its most stays as it is", x.wantFor(0, 60), 999);
    }

    private static void watch() {
        ValveRiver x = Rivers.dryBut(0, 0);
        due.is("26: nothing changes: the least", x.watch(1), 0);
        due.is("26: nothing changes in 60 hours", x.watch(60), 0);
        x.level(11, 2);
        due.is("26: the last cell", x.watch(1), 11);
        due.is("26: the last cell in 60 hours", x.watch(60), 11);
        x.level(0, 2);
        due.is("26: the first of three alike", x.watch(60), 0);
        x.level(0, 0);
        x.level(11, 0);
        for (int cell = 11; cell >= 0; cell--) {
            x.level(cell, 2);
            due.is("26: cell " + cell, x.watch(1), cell);
            due.is("26: cell " + cell + " again", x.watch(60), cell);
            x.level(cell, 0);
        }
        // At cell 0 one comes in hour 3 of each day, and goes an hour later from the second day on: in 59 hours
        // 7 come and 6 go, in 60 hours 8 come. Cell 11 falls by 14 in all.
        ValveRiver daily = Rivers.dryBut(3, 1);
        daily.level(11, 15);
        due.is("26: by 13 at cell 0 in 59 hours", daily.watch(59), 11);
        due.is("26: by 14 at cell 0 in 60 hours", daily.watch(60), 0);
    }

    private static ValveRiver sheetOf(ValveRiver x, int bits, int... numbers) {
        Rivers.row(x, 0, bits, numbers);
        return x;
    }

    private static void fitsOfEmptyAndFullSheets() {
        ValveRiver x = sheetOf(Rivers.dryBut(0, 0), 8);
        due.is("27: a sheet of no numbers tells nothing", x.fits(0, 0, 0), 100);
        due.is("28: a sheet of no numbers tells nothing", x.opened(0, 0, 0), 0);
        int[] all = new int[40];
        for (int i = 0; i < 40; i++) {
            // One that comes in at hour 6 is there behind 7 hours, and stays; behind 15, 23, 31 and 39 there are two.
            all[i] = i < 7 ? 0 : i > 7 && i % 8 == 7 ? 2 : 1;
        }
        sheetOf(x, 8, all);
        due.is("27: a full sheet", x.fits(0, 6, 0), 1);
        due.is("28: a full sheet", x.opened(0, 6, 0), 1);
        x.write(0, 39, 1);
        due.is("27: a full sheet whose last number isn't so", x.fits(0, 6, 0), 0);
        due.is("28: a full sheet whose last number isn't so", x.opened(0, 6, 0), Due.NONE);
        x.write(0, 39, -1);
        due.is("27: a full sheet whose last number is any", x.fits(0, 6, 0), 1);
        due.is("27: the plan is as it was", x.now(6), 0);
    }

    private static void fitsNoneToAll() {
        ValveRiver x = Rivers.dryBut(0, 0);
        x.level(11, 1);
        sheetOf(x, 16, 1);
        due.is("27: now, at the last cell", x.fits(0, 7, 11), 100);
        sheetOf(x, 16, 2);
        due.is("27: not so now", x.fits(0, 7, 11), 0);
        sheetOf(x, 16, 0, 0);
        due.is("27: one of all", x.fits(0, 0, 0), 1);
        due.is("27: all, where the hour doesn't come", x.fits(0, 1, 0), 100);
        sheetOf(x, 16, 0, -1, 0);
        due.is("27: two are cut to the same", x.fits(0, 0, 1), 2);
        sheetOf(x, 16, 0, -1, 49);
        due.is("27: the last two", x.fits(0, 0, 1), 2);
        sheetOf(x, 16, 0, -1, 50);
        due.is("27: more than any brings", x.fits(0, 0, 1), 0);
    }

    private static void opened() {
        ValveRiver x = Rivers.dryBut(0, 0);
        sheetOf(x, 32, 0, 0);
        due.is("28: the least there is", x.opened(0, 0, 0), 0);
        sheetOf(x, 32, 0, 99);
        due.is("28: the greatest there is", x.opened(0, 0, 0), 99);
        sheetOf(x, 32, 0, 100);
        due.is("28: one more", x.opened(0, 0, 0), Due.NONE);
        sheetOf(x, 32, 0, -1, 49);
        due.is("28: the least of two", x.opened(0, 0, 1), 98);
        sheetOf(x, 32, 0, -2);
        due.is("28: below -1 is no any", x.opened(0, 0, 0), Due.NONE);
        sheetOf(x, 32, 0, Integer.MIN_VALUE);
        due.is("28: nor is the least int", x.opened(0, 0, 0), Due.NONE);
        sheetOf(x, 32, Integer.MAX_VALUE);
        due.is("28: nor the greatest int", x.opened(0, 0, 0), Due.NONE);
        x.steady(0);
        sheetOf(x, 32, 0, 0, 0, 0, 0, 0, 0, 0, 7);
        due.is("28: the last hour", x.opened(0, 7, 0), 7);
    }

    /** "-1: any", and what has the lowest bits of -1 is -1 in as many bits. */
    private static void anyInEachWidth() {
        int[] widths = {8, 16, 32};
        int[] ones = {255, 65535, -1};
        for (int i = 0; i < 3; i++) {
            ValveRiver x = Rivers.even();
            x.watcher(5, 0);
            sheetOf(x, widths[i], -1, -1);
            due.is("27: any, in " + widths[i] + " bits", x.fits(0, 0, 0), 100);
            due.is("28: any, in " + widths[i] + " bits", x.opened(0, 0, 0), 0);
            due.is("29: any, in " + widths[i] + " bits", x.kinds(0, 0), 127);
            sheetOf(x, widths[i], ones[i]);
            due.is("27: all bits set, of " + widths[i], x.fits(0, 0, 0), 100);
            due.is("29: all bits set, of " + widths[i], x.kinds(0, 0), 127);
            sheetOf(x, widths[i], -2);
            due.is("27: -2, in " + widths[i] + " bits", x.fits(0, 0, 0), 0);
            due.is("29: -2, in " + widths[i] + " bits", x.kinds(0, 0), 0);
        }
        ValveRiver x = sheetOf(Rivers.even(), 16, 255);
        due.is("27: 255 in 16 bits is a level", x.fits(0, 0, 0), 0);
        sheetOf(x, 32, 65535);
        due.is("27: 65535 in 32 bits is none that is there", x.fits(0, 0, 0), 0);
    }

    private static void kindsOfEmptyAndFullSheets() {
        ValveRiver x = Rivers.even();
        for (int i = 0; i < 8; i++) {
            x.watcher(4, 0);
        }
        sheetOf(x, 8);
        due.is("29: a sheet of no numbers tells nothing", x.kinds(0, 0), 127);
        int[] all = new int[40];
        for (int i = 0; i < 40; i++) {
            all[i] = 50 + i;
        }
        sheetOf(x, 8, all);
        due.is("29: a full sheet, of those that trust 1", x.kinds(0, 7), 5);
        x.write(0, 39, 88);
        due.is("29: a full sheet whose last number isn't so", x.kinds(0, 7), 0);
        x.write(0, 39, -1);
        due.is("29: a full sheet whose last number is any", x.kinds(0, 0), 5);
        due.is("29: it is of the kind that it was", x.of(7, 0), 4);
    }

    private static void kindsNoneToAll() {
        ValveRiver x = Rivers.even();
        x.watcher(0, 0);
        sheetOf(x, 8, 50);
        due.is("29: all, by now alone", x.kinds(0, 0), 127);
        sheetOf(x, 8, 51);
        due.is("29: none, by now alone", x.kinds(0, 0), 0);
        sheetOf(x, 8, 50, 52);
        due.is("29: the last kind with the mill", x.kinds(0, 0), 66);
        x.change(0, 3, 99);
        sheetOf(x, 8, 99, 99, 99);
        due.is("29: all, at the most", x.kinds(0, 0), 127);
        x.change(0, 3, 0);
        sheetOf(x, 8, 0, 0, 0);
        due.is("29: all, of one that knows", x.kinds(0, 0), 127);
        sheetOf(x, 8, 0, 1);
        due.is("29: none, of one that knows", x.kinds(0, 0), 0);
    }

    private static void nights() {
        ValveRiver x = new ValveRiver();
        due.is("30: the fewest, nobody knows", x.nights(1), 0);
        due.is("30: one hour", x.now(0), 1);
        due.is("30: the most", x.nights(20), 0);
        due.is("30: 21 hours", x.now(0), 21);
        ValveRiver all = Rivers.full();
        for (int i = 0; i < 8; i++) {
            all.change(i, 3, 0);
        }
        due.is("30: how many, not which: all", all.nights(20), 8);
        all.change(0, 0, 5);
        all.change(0, 3, 1);
        due.is("30: all but one", all.nights(1), 7);
        // Each opening that a night draws is 0 to 39.
        ValveRiver drawn = new ValveRiver();
        drawn.steady(99);
        for (int i = 0; i < 12; i++) {
            drawn.nights(20);
        }
        for (int hour = 0; hour < 8; hour++) {
            due.is("30: an opening of 0 to 39", drawn.opening(hour) >= 0 && drawn.opening(hour) < 40 ? 1 : 0, 1);
        }
        openingAtItsEnds();
    }

    /** Seeds whose two draws are of hour 0 or 7, and of 0 or 39. */
    private static void openingAtItsEnds() {
        int found = 0;
        for (int seed = 0; seed < 20000 && found < 15; seed++) {
            int first = seed * 1103515245 + 12345;
            int second = first * 1103515245 + 12345;
            int hour = (first >>> 8) % 8;
            int opening = (second >>> 8) % 40;
            int bit = (hour == 0 ? 1 : hour == 7 ? 2 : 0) << (opening == 0 ? 0 : opening == 39 ? 2 : 4) & 15;
            if (bit != 0 && (found & bit) == 0) {
                found += bit;
                ValveRiver x = new ValveRiver();
                x.seed(seed);
                x.nights(1);
                due.is("30: opening " + opening + " of hour " + hour, x.opening(hour), opening);
                due.is("30: it is so in the hour behind it", x.stands(0), hour == 0 ? opening : 10);
            }
        }
        due.is("30: all four ends were drawn", found, 15);
    }

    private static void odds(String told, ValveRiver x, int n, long above, long below) {
        due.is("31: " + told + ", above", x.odds(n, 0), above);
        due.is("31: " + told + ", below", x.odds(n, 1), below);
    }

    private static void oddsOfNoDraws() {
        for (int open = 0; open <= 8; open++) {
            odds("no draws of " + open, hoursOpen(open), 0, 1, 1);
        }
    }

    private static ValveRiver hoursOpen(int open) {
        ValveRiver x = new ValveRiver();
        x.steady(0);
        for (int hour = 0; hour < open; hour++) {
            x.plan(7 - hour, hour == 0 ? 1 : 99);
        }
        return x;
    }

    private static void oddsOfMostDraws() {
        long[] above = {0, 1, 1, 3486784401L, 1, 95367431640625L, 3486784401L, 79792266297612001L, 1};
        long[] below = {1, 1L << 60, 1L << 40, 1L << 60, 1L << 20, 1L << 60, 1L << 40, 1L << 60, 1};
        for (int open = 0; open <= 8; open++) {
            odds("20 draws of " + open, hoursOpen(open), 20, above[open], below[open]);
        }
    }

    private static void oddsOfNoHours() {
        odds("one draw of none", hoursOpen(0), 1, 0, 1);
        odds("one draw of all", hoursOpen(8), 1, 1, 1);
        odds("one draw of one", hoursOpen(1), 1, 1, 8);
        odds("one draw of six", hoursOpen(6), 1, 3, 4);
    }

    private static void seed() {
        ValveRiver x = new ValveRiver();
        int[] seeds = {Integer.MIN_VALUE, Integer.MAX_VALUE, 0, -1, -1000001, -1000007, 1};
        int was = 1;
        for (int seed : seeds) {
            due.is("32: to " + seed, x.seed(seed), was);
            due.is("32: it is " + seed, x.count(6), seed);
            was = seed;
        }
        due.is("32: none of these was a finding", x.status(-1), 0);
    }
}
