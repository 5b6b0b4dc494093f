/** Promises 30 to 35: nights; texts. */
public final class NightsTextsTest {
    private static final Due due = new Due();

    public static void main(String[] args) {
        nights();
        odds();
        seed();
        feedAndWipe();
        goodTexts();
        faults();
        fullTexts();
        due.end();
    }

    private static void nights() {
        ValveRiver x = new ValveRiver();
        due.is("nights(0)", x.nights(0), Due.BEYOND);
        due.is("nights(21)", x.nights(21), Due.BEYOND);
        due.is("nights(-1)", x.nights(-1), Due.BEYOND);
        due.is("count(6) still", x.count(6), 1);
        // Of 1: 1103527590, 2524885223, 662824084, 3295386429; by 256: 4310654, 9862832, 2589156, 12872603.
        due.is("nights(1)", x.nights(1), 0);
        due.is("opening(6)", x.opening(6), 32);
        due.is("now(6)", x.now(6), 102);
        due.is("count(6)", x.count(6), -1770082073);
        due.is("now(0)", x.now(0), 1);
        due.is("stands(0)", x.stands(0), 10);
        x.watcher(2, 0);
        x.watcher(5, 0);
        x.watcher(4, 9);
        x.change(0, 3, 1);
        x.change(2, 3, 0);
        due.is("nights(1)", x.nights(1), 2);
        due.is("opening(4)", x.opening(4), 3);
        due.is("count(6)", x.count(6), -999580867);
        ValveRiver one = new ValveRiver();
        ValveRiver other = new ValveRiver();
        one.nights(20);
        for (int i = 0; i < 20; i++) {
            other.nights(1);
        }
        for (int hour = 0; hour < 8; hour++) {
            due.is("opening(" + hour + ") behind 20", one.opening(hour), other.opening(hour));
        }
        due.is("levels behind 20", one.now(1), other.now(1));
        due.is("now(0)", one.now(0), 20);
        openingOfItsOwnNight();
    }

    /** The first seed whose draws are of hour 0 and of 39: the hour behind them has that already. */
    private static void openingOfItsOwnNight() {
        for (int z = 0; z < 100000; z++) {
            int first = z * 1103515245 + 12345;
            int second = first * 1103515245 + 12345;
            if ((first >>> 8) % 8 == 0 && (second >>> 8) % 40 == 39) {
                ValveRiver x = new ValveRiver();
                x.seed(z);
                x.nights(1);
                due.is("stands(0) behind its own night", x.stands(0), 39);
                return;
            }
        }
        due.is("seeds of hour 0 and 39", 0, 1);
    }

    private static void odds() {
        ValveRiver x = new ValveRiver();
        fraction(x, 20, 1, 1);
        x.plan(0, 0);
        fraction(x, 1, 7, 8);
        fraction(x, 20, 79792266297612001L, 1152921504606846976L);
        x.plan(7, 0);
        fraction(x, 2, 9, 16);
        fraction(x, 20, 3486784401L, 1099511627776L);
        x.plan(3, 0);
        fraction(x, 3, 125, 512);
        x.plan(4, 0);
        fraction(x, 20, 1, 1048576);
        x.steady(0);
        x.plan(1, 99);
        x.plan(2, 1);
        fraction(x, 20, 1, 1099511627776L);
        x.plan(2, 0);
        fraction(x, 20, 1, 1152921504606846976L);
        x.plan(1, 0);
        fraction(x, 1, 0, 1);
        fraction(x, 20, 0, 1);
        fraction(x, 0, 1, 1);
        due.is("odds(21, 0)", x.odds(21, 0), Due.BEYOND);
        due.is("odds(-1, 0)", x.odds(-1, 0), Due.BEYOND);
        due.is("odds(1, 2)", x.odds(1, 2), Due.BEYOND);
        due.is("odds(1, -1)", x.odds(1, -1), Due.BEYOND);
        due.is("status(0)", x.status(0), 4);
        due.is("count(6) still", x.count(6), 1);
    }

    private static void fraction(ValveRiver x, int n, long above, long below) {
        due.is("odds(" + n + ", 0)", x.odds(n, 0), above);
        due.is("odds(" + n + ", 1)", x.odds(n, 1), below);
    }

    private static void seed() {
        ValveRiver x = new ValveRiver();
        due.is("seed(min)", x.seed(Integer.MIN_VALUE), 1);
        due.is("seed(like a finding)", x.seed(Due.NONE), Integer.MIN_VALUE);
        due.is("seed(0)", x.seed(0), Due.NONE);
        due.is("count(6)", x.count(6), 0);
        due.is("status(-1): that was no finding", x.status(-1), 0);
    }

    private static void feedAndWipe() {
        ValveRiver x = new ValveRiver();
        due.is("feed(0, 0)", x.feed(0, 0), Due.BEYOND);
        due.is("feed(0, 5)", x.feed(0, 5), Due.BEYOND);
        due.is("feed(0, -1)", x.feed(0, -1), Due.BEYOND);
        due.is("feed \"fi\" of more", x.feed(('x' << 16) | ('f' << 8) | 'i', 2), 2);
        due.is("feed \"sh\" of more", x.feed(0x7f7f0000 | ('s' << 8) | 'h', 2), 4);
        due.is("count(5)", x.count(5), 4);
        due.is("text()", x.text(), 1);
        due.is("count(5) behind a text", x.count(5), 0);
        due.is("of(0, 0)", x.of(0, 0), 5);
        for (int i = 1; i <= 29; i++) {
            due.is("feed 4", x.feed(0, 4), 4 * i);
        }
        due.is("feed 3", x.feed(0, 3), 119);
        due.is("feed 2 at 119", x.feed(0, 2), Due.FULL);
        due.is("feed 5 at 119", x.feed(0, 5), Due.BEYOND);
        due.is("feed 1 at 119", x.feed(0, 1), 120);
        due.is("feed 1 at 120", x.feed(0, 1), Due.FULL);
        due.is("status(1)", x.status(1), 2);
        due.is("wipe()", x.wipe(), 120);
        due.is("wipe() again", x.wipe(), 0);
        due.is("feed 1", x.feed(-1, 1), 1);
        due.is("a byte of 255", x.text(), -1);
    }

    private static void goodTexts() {
        ValveRiver x = new ValveRiver();
        String[] words = {"watcher", "mill", "poet", "professor", "doubter", "fish", "bridge"};
        for (int kind = 0; kind < 7; kind++) {
            due.is(words[kind], Due.text(x, words[kind]), 1);
            due.is("kind of " + words[kind], x.of(kind, 0), kind);
            due.is("cell of " + words[kind], x.of(kind, 1), 0);
            due.is("want of " + words[kind], x.of(kind, 2), 5);
            due.is("belief of " + words[kind], x.of(kind, 3), 50);
        }
        x = new ValveRiver();
        due.is("all told", Due.text(x, " mill at 11 wants 999 believes 99 ; fish wants 0 ; poet believes 0"), 3);
        int[][] told = {{1, 11, 999, 99, 0}, {5, 0, 0, 50, 0}, {2, 0, 5, 0, 0}};
        for (int i = 0; i < 3; i++) {
            for (int what = 0; what < 5; what++) {
                due.is("of(" + i + ", " + what + ")", x.of(i, what), told[i][what]);
            }
        }
        due.is("no blanks", Due.text(x, "mill at3wants7believes8;level2 9999;plan7 99;steady4;plan0 0003"), 5);
        due.is("of(3, 1)", x.of(3, 1), 3);
        due.is("of(3, 2)", x.of(3, 2), 7);
        due.is("of(3, 3)", x.of(3, 3), 8);
        due.is("stands(2)", x.stands(2), 9999);
        due.is("opening(7), as told later", x.opening(7), 4);
        due.is("opening(0), as told latest", x.opening(0), 3);
        due.is("zeros ahead", Due.text(x, "level 0000000000011 000000000000000000000012"), 1);
        due.is("stands(11)", x.stands(11), 12);
        due.is("mill believes 3", Due.text(x, "mill believes 3"), 1);
        due.is("mill at 2 believes 3", Due.text(x, "mill at 2 believes 3"), 1);
        due.is("status(-1)", x.status(-1), 0);
    }

    private static void faults() {
        String[] texts = {
            "", "   ", ";", "mill;", "mill; ", "mill;;mill", "mill mill", "mill 3", "at 3", "Mill", "mills", "mi ll",
            "mill at", "mill at ", "mill at 12", "mill at x", "mill at 3 at 3", "mill wants 1000", "mill wants;",
            "mill wants 1 at 1", "mill believes 100", "mill believes 1 wants 1", "mill believes 1 believes 1",
            "millat 1", "mill at 1wants", "level", "level 12 0", "level 0 10000", "level 0 99999999999", "level 0",
            "level 4294967296 0", "level 0 0 0", "level x", "plan 8 0", "plan 7 100", "plan 7", "plan", "plan 7 ;",
            "steady", "steady 100", "steady 1 2", "steady -1", "mill\tat 1", "mill at 1,", "mill at 1#", "#",
            "10000", "mill 10000", "level 3;", "steady 5;mill at 3;level 1 2;plan 1 100",
            "millz", "amill", "bill", "milk", "mill{", "mill`", "mill/", "mill:", "mil", "MILL", "mill\n"};
        int[] places = {
            0, 3, 0, 5, 6, 5, 5, 5, 0, 0, 0, 0,
            7, 8, 8, 8, 10, 11, 10,
            13, 14, 16, 16,
            0, 14, 5, 6, 8, 8, 7,
            6, 10, 6, 5, 7, 6, 4, 7,
            6, 7, 9, 7, 4, 9, 9, 0,
            0, 5, 7, 36,
            0, 0, 0, 0, 4, 4, 4, 4, 0, 0, 4};
        for (int i = 0; i < texts.length; i++) {
            ValveRiver x = new ValveRiver();
            x.watcher(0, 1);
            due.is("text \"" + texts[i] + "\"", Due.text(x, texts[i]), -1 - places[i]);
            due.is("the tape of it", x.count(5), 0);
            due.is("watchers of it", x.count(1), 1);
            due.is("openings of it", x.now(6), 80);
            due.is("levels of it", x.now(1), 0);
            due.is("findings of it", x.status(-1), 0);
        }
    }

    private static void fullTexts() {
        ValveRiver x = new ValveRiver();
        due.is("8 at once", Due.text(x, "fish;fish;fish;fish;fish;fish;fish;fish"), 8);
        due.is("a 9th", Due.text(x, "steady 3; fish"), -1 - 10);
        due.is("now(6) still", x.now(6), 80);
        due.is("no 9th", Due.text(x, "steady 3"), 1);
        x = new ValveRiver();
        x.watcher(0, 0);
        due.is("a 9th with one there", Due.text(x, "fish;fish;fish;fish;fish;fish;fish;fish at 99"), -1 - 35);
        due.is("none of them came", x.count(1), 1);
        due.is("a wrong cell ahead of a 9th", Due.text(x, "fish;fish;fish;fish;fish;fish;fish at 99;fish"), -1 - 38);
        StringBuilder many = new StringBuilder("steady 9");
        for (int i = 0; i < 13; i++) {
            many.append(";steady").append(i % 10);
        }
        due.is("many items", Due.text(x, many.toString()), 14);
        due.is("what the last one told", x.opening(5), 2);
    }
}
