/** The boundary cases of "Terms": what is lost or held at its most, what is borne just so, what is cut, what wraps. */
public final class TermsEdgesTest {
    private static final Due due = new Due();
    private static final int[] DOUBTS = {10, 5, 20, 25, 50, 0, 1};
    private static final int[] TRUSTS = {1, 2, 1, 0, 0, 3, 2};

    public static void main(String[] args) {
        findingsAreTheseNumbers();
        levelIsHeldAtItsMost();
        seaIsHeldAtItsMost();
        quotientsAreCut();
        lastCellGivesToTheSea();
        allAtOnce();
        dayBeginsAgain();
        beginsWithTheseNumbers();
        bearsJustSo();
        bearsByWant();
        bearsByBelief();
        fallingAsRising();
        beliefIsHeldAtItsLeast();
        beliefIsHeldAtItsMost();
        trustsWithJustWhatItWants();
        whoKnowsStaysSo();
        thirstIsHeldAtItsMost();
        thirstWithJustWhatItWants();
        thirstOfOneThatKnows();
        hourIsHeldAtItsMost();
        zWrapsAround();
        drawsAreNeverBelowZero();
        setsOfNoneAndOfAll();
        due.end();
    }

    private static void findingsAreTheseNumbers() {
        due.is("BEYOND", new ValveRiver().stands(12), -1000001);
        due.is("BEYOND, as a long", new ValveRiver().odds(21, 0), -1000001L);
        due.is("FULL", Rivers.full().watcher(0, 0), -1000002);
        due.is("KIND", Rivers.full().as(0, 1), -1000003);
        due.is("NONE", new ValveRiver().undo(), -1000004);
        due.is("MISSING", new ValveRiver().load(0), -1000006);
        due.is("SIZE", new ValveRiver().sheet(0, 8, -1), -1000007);
    }

    /** A full cell keeps 5000 and gets 4999 at most, so it is just full again: 9999, and never more. */
    private static void levelIsHeldAtItsMost() {
        ValveRiver x = Rivers.full();
        x.go(1);
        due.is("the first of full cells", x.stands(0), 5000 + 99);
        for (int cell = 1; cell < 12; cell++) {
            due.is("full cell " + cell + " below a full one", x.stands(cell), 9999);
        }
        due.is("levels of all full cells together", Rivers.full().now(1), 12 * 9999);
        due.is("the greatest of a full cell", Rivers.full().range(11, 100, 1), 9999);
        x.go(1);
        due.is("the first one an hour later", x.stands(0), 2550 + 99);
        due.is("the second one an hour later", x.stands(1), 5000 + 2549);
        due.is("the third one an hour later", x.stands(2), 9999);
    }

    private static void seaIsHeldAtItsMost() {
        ValveRiver x = new ValveRiver();
        x.steady(0);
        for (int i = 0; i < 200; i++) {
            x.level(11, 9999);
            x.go(1);
        }
        x.level(11, 396);
        x.go(1);
        due.is("the sea with one less than its most", x.now(2), 999998);
        x.level(11, 2);
        x.image();
        x.go(1);
        due.is("the sea at its most", x.now(2), 999999);
        x.undo();
        x.level(11, 4);
        x.go(1);
        due.is("the sea with one more than its most", x.now(2), 999999);
        x.level(11, 9999);
        x.go(80);
        due.is("the sea stays at its most", x.now(2), 999999);
        due.is("what went there is gone all the same", x.stands(11), 1);
    }

    private static void quotientsAreCut() {
        ValveRiver x = new ValveRiver();
        x.steady(0);
        for (int cell = 0; cell < 12; cell += 2) {
            x.level(cell, cell / 2);
        }
        x.go(1);
        // 0 1 2 3 4 5 stood there: 0 0 1 1 2 2 went on.
        int[] stay = {0, 1, 1, 2, 2, 3};
        int[] went = {0, 0, 1, 1, 2, 2};
        for (int i = 0; i < 6; i++) {
            due.is("what stays of " + i, x.stands(2 * i), stay[i]);
            due.is("what goes of " + i, x.stands(2 * i + 1), went[i]);
        }
    }

    private static void lastCellGivesToTheSea() {
        ValveRiver x = new ValveRiver();
        x.level(11, 1);
        x.go(1);
        due.is("of 1 nothing goes to the sea", x.now(2), 0);
        x.level(11, 3);
        x.go(1);
        due.is("of 3 one goes to the sea", x.now(2), 1);
        due.is("and two stay", x.stands(11), 2);
    }

    /** What comes to a cell goes on an hour later at the soonest. */
    private static void allAtOnce() {
        ValveRiver x = Rivers.dryBut(0, 99);
        for (int cell = 0; cell < 12; cell++) {
            due.is("nothing yet at cell " + cell, x.stands(cell), 0);
            x.go(1);
            due.is("the first of it at cell " + cell, x.stands(cell), 99 >> cell);
        }
    }

    private static void dayBeginsAgain() {
        for (int hour = 0; hour < 8; hour++) {
            ValveRiver x = Rivers.dryBut(hour, 1);
            for (int i = 0; i < hour; i++) {
                x.go(1);
            }
            due.is("nothing ahead of hour " + hour, x.now(1), 0);
            x.go(1);
            due.is("one in hour " + hour, x.now(1), 1);
            x.go(7);
            due.is("one till hour " + hour + " comes again", x.now(1), 1);
            x.go(1);
            due.is("two in hour " + hour + " of the next day", x.now(1), 2);
        }
    }

    private static void beginsWithTheseNumbers() {
        ValveRiver x = new ValveRiver();
        for (int kind = 0; kind < 7; kind++) {
            x.watcher(kind, 11 - kind);
            int[] first = {kind, 11 - kind, 5, 50, 0};
            for (int what = 0; what < 5; what++) {
                due.is("of(" + kind + ", " + what + ") at first", x.of(kind, what), first[what]);
            }
        }
    }

    /** Belief behind an hour in which the cell of one (that wants so much) rises from 0. */
    private static int risen(int kind, int want, int belief, int by) {
        ValveRiver x = new ValveRiver();
        x.steady(by);
        return lived(x, kind, want, belief);
    }

    /** The same where it falls to a half. */
    private static int fallen(int kind, int want, int belief, int by) {
        ValveRiver x = new ValveRiver();
        x.steady(0);
        x.level(0, 2 * by);
        return lived(x, kind, want, belief);
    }

    private static int lived(ValveRiver x, int kind, int want, int belief) {
        x.watcher(kind, 0);
        x.change(0, 2, want);
        x.change(0, 3, belief);
        x.go(1);
        return x.of(0, 3);
    }

    private static void bearsJustSo() {
        int[] bears = {5, 5, 3, 2, 2, 20, 10};
        for (int kind = 0; kind < 7; kind++) {
            due.is("kind " + kind + ", no change", risen(kind, 0, 50, 0), 50 + TRUSTS[kind]);
            due.is("kind " + kind + ", just borne", risen(kind, 0, 50, bears[kind]), 50 + TRUSTS[kind]);
            due.is("kind " + kind + ", one more", risen(kind, 0, 50, bears[kind] + 1), 50 - DOUBTS[kind]);
        }
    }

    private static void bearsByWant() {
        int[] wants = {0, 9, 10, 19, 20, 989, 990, 999};
        int[] mill = {5, 5, 6, 6, 7, 103, 104, 104};
        ValveRiver x = new ValveRiver();
        x.watcher(0, 0);
        for (int i = 0; i < wants.length; i++) {
            x.change(0, 2, wants[i]);
            int[] bears = {5, mill[i], 3, 2, 2, 20, 2 * mill[i]};
            for (int kind = 0; kind < 7; kind++) {
                x.change(0, 0, kind);
                due.is("bears of kind " + kind + " that wants " + wants[i], x.of(0, 5), bears[kind]);
            }
        }
        due.is("a mill that wants 999, just borne", fallen(1, 999, 50, 104), 50);
        due.is("a mill that wants 999, one more", fallen(1, 999, 50, 105), 45);
        due.is("a bridge that wants 999, just borne", fallen(6, 999, 50, 208), 50);
        due.is("a bridge that wants 999, one more", fallen(6, 999, 50, 209), 49);
    }

    private static void bearsByBelief() {
        ValveRiver x = new ValveRiver();
        x.watcher(4, 0);
        int[] beliefs = {0, 1, 19, 20, 21, 99};
        int[] bears = {1, 1, 1, 2, 2, 2};
        for (int i = 0; i < beliefs.length; i++) {
            x.change(0, 3, beliefs[i]);
            due.is("bears of a doubter that believes " + beliefs[i], x.of(0, 5), bears[i]);
        }
        due.is("a doubter of 20, just borne", risen(4, 0, 20, 2), 20);
        due.is("a doubter of 20, one more", risen(4, 0, 20, 3), 0);
        due.is("a doubter of 19, just borne", risen(4, 0, 19, 1), 19);
        due.is("a doubter of 19, one more", risen(4, 0, 19, 2), 0);
        due.is("a professor of 19 bears as ever", risen(3, 0, 19, 2), 19);
    }

    private static void fallingAsRising() {
        int[] bears = {5, 5, 3, 2, 2, 20, 10};
        for (int kind = 0; kind < 7; kind++) {
            due.is("kind " + kind + ", a fall just borne", fallen(kind, 0, 50, bears[kind]), 50 + TRUSTS[kind]);
            due.is("kind " + kind + ", a fall by one more", fallen(kind, 0, 50, bears[kind] + 1), 50 - DOUBTS[kind]);
        }
    }

    private static void beliefIsHeldAtItsLeast() {
        for (int kind = 0; kind < 7; kind++) {
            if (kind != 5) {
                due.is("kind " + kind + " loses all but one", risen(kind, 0, DOUBTS[kind] + 1, 99), 1);
                due.is("kind " + kind + " loses all", risen(kind, 0, DOUBTS[kind], 99), 0);
                due.is("kind " + kind + " loses more than it has", risen(kind, 0, 1, 99), 0);
            }
        }
        due.is("a fish of 1 loses nothing", risen(5, 0, 1, 99), 1);
    }

    private static void beliefIsHeldAtItsMost() {
        for (int kind = 0; kind < 7; kind++) {
            int trusts = TRUSTS[kind];
            due.is("kind " + kind + " comes to 98", risen(kind, 0, 98 - trusts, 0), 98);
            due.is("kind " + kind + " comes to 99", risen(kind, 0, 99 - trusts, 0), 99);
            due.is("kind " + kind + " can't come above 99", risen(kind, 0, 99, 0), 99);
        }
        due.is("a fish of 98 gets 1 of its 3", risen(5, 0, 98, 0), 99);
        due.is("a mill of 98 gets 1 of its 2", risen(1, 0, 98, 0), 99);
    }

    private static void trustsWithJustWhatItWants() {
        for (int kind = 0; kind < 7; kind++) {
            due.is("kind " + kind + " with just what it wants", risen(kind, 2, 50, 2), 50 + TRUSTS[kind]);
            due.is("kind " + kind + " with one less", risen(kind, 3, 50, 2), 50);
            due.is("kind " + kind + " that wants all there can be", risen(kind, 999, 50, 2), 50);
        }
        due.is("by what it has now, not by what it had", fallen(0, 5, 50, 5), 51);
        due.is("by what it has now, one less", fallen(0, 5, 50, 4), 50);
    }

    private static void whoKnowsStaysSo() {
        for (int kind = 0; kind < 7; kind++) {
            due.is("kind " + kind + " of 0 trusts no more", risen(kind, 0, 0, 0), 0);
            due.is("kind " + kind + " of 0 sees it again", risen(kind, 0, 0, 99), 0);
            due.is("kind " + kind + " of 1 trusts yet", risen(kind, 0, 1, 0), 1 + TRUSTS[kind]);
        }
    }

    private static void thirstIsHeldAtItsMost() {
        ValveRiver x = new ValveRiver();
        x.watcher(0, 11);
        x.change(0, 4, 9997);
        due.is("thirst of 9997 behind an hour", x.belief(0, 4, 1), 9998);
        due.is("thirst of 9997 behind 2", x.belief(0, 4, 2), 9999);
        due.is("thirst of 9997 behind 3", x.belief(0, 4, 3), 9999);
        x.go(1);
        due.is("thirst of 9998", x.of(0, 4), 9998);
        x.go(1);
        due.is("thirst at its most", x.of(0, 4), 9999);
        x.go(1);
        due.is("thirst stays at its most", x.of(0, 4), 9999);
    }

    private static void thirstWithJustWhatItWants() {
        ValveRiver x = new ValveRiver();
        x.steady(20);
        x.watcher(0, 0);
        x.change(0, 2, 20);
        x.go(1);
        due.is("thirst with just what it wants", x.of(0, 4), 0);
        due.is("nor does it lack", x.now(4), 0);
        x.change(0, 2, 31);
        x.go(1);
        due.is("thirst with one less than it wants", x.of(0, 4), 1);
        due.is("it lacks", x.now(4), 1);
        x.change(0, 2, 0);
        x.steady(0);
        x.change(0, 1, 11);
        x.go(1);
        due.is("thirst of one that wants 0 and has 0", x.of(0, 4), 1);
        due.is("nor does that lack", x.now(4), 0);
    }

    private static void thirstOfOneThatKnows() {
        ValveRiver x = new ValveRiver();
        x.watcher(3, 11);
        x.change(0, 3, 0);
        x.go(1);
        due.is("thirst of one that knows", x.of(0, 4), 1);
    }

    /** No 512 calls come that far, so this asks more of one object than is promised: 99999 is the last hour. */
    private static void hourIsHeldAtItsMost() {
        ValveRiver x = new ValveRiver();
        for (int i = 0; i < 1249; i++) {
            x.go(80);
        }
        x.image();
        due.is("go(80) from 99920", x.go(80), Due.STATE);
        due.is("go(81) is asked first", x.go(81), Due.BEYOND);
        due.is("go(0) is asked first", x.go(0), Due.BEYOND);
        due.is("the hour stays", x.now(0), 99920);
        due.is("go(79) from 99920", x.go(79), 0);
        due.is("the last hour", x.now(0), 99999);
        due.is("go(1) from there", x.go(1), Due.STATE);
        due.is("nights(1) from there", x.nights(1), Due.STATE);
        due.is("nights(21) is asked first", x.nights(21), Due.BEYOND);
        due.is("nights(0) is asked first", x.nights(0), Due.BEYOND);
        due.is("no draw was made", x.count(6), 1);
        due.is("the plan stays", x.now(6), 80);
        due.is("what will be goes on there", x.ahead(0, 100), 20);
        due.is("status of STATE", x.status(4), 3);
        due.is("undo()", x.undo(), 99920);
        x.go(59);
        due.is("nights(20) from 99979", x.nights(20), 0);
        due.is("the last hour by nights", x.now(0), 99999);
        x.undo();
        x.go(60);
        due.is("nights(20) from 99980", x.nights(20), Due.STATE);
        due.is("nights(19) from 99980", x.nights(19), 0);
    }

    private static void zWrapsAround() {
        // z * 1103515245 + 12345, of which the lowest 32 bits stay, with their sign; twice a night.
        int[] seeds = {0, 1, -1, 2, Integer.MAX_VALUE, Integer.MIN_VALUE, 1000000000, -1000004};
        for (int seed : seeds) {
            java.math.BigInteger z = java.math.BigInteger.valueOf(seed);
            for (int draw = 0; draw < 2; draw++) {
                z = z.multiply(java.math.BigInteger.valueOf(1103515245)).add(java.math.BigInteger.valueOf(12345))
                    .mod(java.math.BigInteger.TWO.pow(32));
            }
            ValveRiver x = new ValveRiver();
            x.seed(seed);
            x.nights(1);
            due.is("z behind a night from " + seed, x.count(6), z.intValue());
        }
        ValveRiver x = new ValveRiver();
        x.nights(1);
        due.is("z behind a night from 1: 2524885223 less 2 to the 32nd", x.count(6), -1770082073);
    }

    /** Two draws from each seed, by hand: the sign of z is no sign of the draw. */
    private static void drawsAreNeverBelowZero() {
        int belowZero = 0;
        for (int seed = 0; seed < 60; seed++) {
            long first = (seed * 1103515245L + 12345L) & 0xffffffffL;
            long second = (first * 1103515245L + 12345L) & 0xffffffffL;
            belowZero += first >> 31 == 1 && second >> 31 == 1 ? 1 : 0;
            int hour = (int) ((first >> 8) % 8);
            ValveRiver x = new ValveRiver();
            x.seed(seed);
            x.nights(1);
            due.is("the opening drawn from " + seed, x.opening(hour), (second >> 8) % 40);
            due.is("all other openings stay", x.now(6) - x.opening(hour), 70);
        }
        due.is("both kinds of sign were met", belowZero > 5 && belowZero < 55 ? 1 : 0, 1);
    }

    private static void setsOfNoneAndOfAll() {
        ValveRiver x = new ValveRiver();
        due.is("who knows, of nobody", x.now(3), 0);
        due.is("who lacks, of nobody", x.now(4), 0);
        for (int i = 0; i < 8; i++) {
            x.watcher(0, 11);
        }
        due.is("none of 8 know", x.now(3), 0);
        due.is("all of 8 lack", x.now(4), 255);
        for (int i = 0; i < 8; i++) {
            x.change(i, 3, 0);
            x.change(i, 2, 0);
        }
        due.is("all of 8 know", x.now(3), 255);
        due.is("none of 8 lack", x.now(4), 0);
        due.is("all of 8 know behind an hour", x.go(1), 255);
        x.change(7, 3, 1);
        due.is("all but the last one", x.now(3), 127);
        x.change(0, 2, 1);
        due.is("the first one alone", x.now(4), 1);
    }
}
