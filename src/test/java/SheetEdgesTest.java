/** The boundary cases of promises 36 to 47 that are answered: spots, sheets, images, counts, status. */
public final class SheetEdgesTest {
    private static final Due due = new Due();
    private static final int MIN = Integer.MIN_VALUE;
    private static final int MAX = Integer.MAX_VALUE;

    public static void main(String[] args) {
        hold();
        asOneOfAKind();
        asWithoutChange();
        sheetOfNoneToForty();
        sheetIsAllZeroAgain();
        sheetIsMissingAgain();
        writeAtTheEnds();
        writeInEightBits();
        writeInSixteenBits();
        writeInThirtyTwoBits();
        copyOfNone();
        copyOfAll();
        copyOnItself();
        copyWithinItsBits();
        loadOfNone();
        loadOfEight();
        loadEndsAtTheFirst();
        judgeOfNone();
        judgeOfTwelve();
        judgeOfMore();
        judgeAtTheEnds();
        image();
        imageOfAllButTapeAndSheets();
        undoStays();
        tear();
        count();
        status();
        statusCountsEachFinding();
        statusIsNotTakenBack();
        due.end();
    }

    private static void hold() {
        ValveRiver x = new ValveRiver();
        due.is("36: nothing, where nothing is", x.hold(0, -1), 1);
        for (int i = 0; i < 8; i++) {
            x.watcher(0, 0);
        }
        due.is("36: the first spot, the first one", x.hold(0, 0), 1);
        due.is("36: the last spot, the last one", x.hold(9, 7), 1);
        due.is("36: they are held", x.count(7), 2);
        due.is("36: the last one there", x.as(9, 0), 7);
        due.is("36: another one there", x.hold(9, 0), 1);
        due.is("36: the same one in two spots", x.as(9, 0), 0);
        due.is("36: as many are held", x.count(7), 2);
        due.is("36: nothing", x.hold(9, -1), 1);
        due.is("36: it holds nothing", x.as(9, 0), Due.MISSING);
        for (int spot = 0; spot < 10; spot++) {
            x.hold(spot, 7);
        }
        due.is("36: all hold something", x.count(7), 10);
        for (int spot = 0; spot < 10; spot++) {
            x.hold(spot, -1);
        }
        due.is("36: none does", x.count(7), 0);
    }

    /** Row: what it is; column: as what. Each is of its own kind and of those above it. */
    private static void asOneOfAKind() {
        String[] is = {"1000000", "1100000", "1010000", "1011000", "1011100", "1000010", "1100001"};
        ValveRiver x = Rivers.full();
        for (int kind = 0; kind < 7; kind++) {
            x.change(7, 0, kind);
            x.hold(0, 7);
            x.hold(9, 7);
            for (int as = 0; as < 7; as++) {
                int answer = is[kind].charAt(as) == '1' ? 7 : Due.KIND;
                due.is("37: kind " + kind + " as " + as + " in the first spot", x.as(0, as), answer);
                due.is("37: kind " + kind + " as " + as + " in the last spot", x.as(9, as), answer);
            }
        }
    }

    private static void asWithoutChange() {
        ValveRiver x = new ValveRiver();
        x.watcher(6, 0);
        x.hold(5, 0);
        due.is("37: a bridge as a mill", x.as(5, 1), 0);
        due.is("37: it is a bridge still", x.of(0, 0), 6);
        x.change(0, 0, 2);
        due.is("37: by what it is now", x.as(5, 1), Due.KIND);
    }

    private static void sheetOfNoneToForty() {
        ValveRiver x = new ValveRiver();
        for (int s = 0; s < 4; s += 3) {
            for (int bits : new int[] {8, 16, 32}) {
                due.is("38: of no numbers, " + bits, x.sheet(s, bits, 0), 0);
                due.is("38: it isn't missing", x.load(s), 0);
                due.is("38: it has no number", x.write(s, 0, 1), Due.BEYOND);
                due.is("38: of one", x.sheet(s, bits, 1), 1);
                due.is("38: it has one", x.write(s, 0, 1), 1);
                due.is("38: and no other", x.write(s, 1, 1), Due.BEYOND);
                due.is("38: of 40", x.sheet(s, bits, 40), 40);
                due.is("38: it has 40", x.write(s, 39, 1), 1);
                due.is("38: and no other one", x.write(s, 40, 1), Due.BEYOND);
            }
        }
    }

    private static void sheetIsAllZeroAgain() {
        ValveRiver x = new ValveRiver();
        Rivers.row(x, 0, 8, 5, 6, 7, 8, 9, 5, 6, 7, 8, 9, 5, 6);
        x.sheet(0, 8, 2);
        x.sheet(0, 8, 12);
        due.is("38: all 0, where numbers stood", x.judge(0), 0);
        Rivers.row(x, 0, 8, 5, 6, 7, 8, 9, 5, 6, 7, 8, 9, 5, 6);
        x.sheet(0, 0, 0);
        x.sheet(0, 16, 12);
        due.is("38: all 0, where it was missing", x.judge(0), 0);
        x.sheet(0, 32, 40);
        x.write(0, 39, 1);
        x.sheet(0, 32, 40);
        due.is("38: all 0, to the last", x.copy(0, 39, 0, 0, 1), 1);
        x.sheet(1, 32, 1);
        x.copy(0, 39, 1, 0, 1);
        due.is("38: the last is 0", x.judge(1), 0);
    }

    /** "bits 0: it is MISSING: .. (0 if it is MISSING)" */
    private static void sheetIsMissingAgain() {
        ValveRiver x = new ValveRiver();
        for (int n : new int[] {0, 1, 40}) {
            x.sheet(2, 16, 3);
            due.is("38: missing, with " + n, x.sheet(2, 0, n), 0);
            due.is("38: it is missing", x.load(2), Due.MISSING);
        }
        due.is("38: missing where it was missing", x.sheet(3, 0, 0), 0);
        x.sheet(2, 16, 3);
        due.is("38: below 0, with bits 0", x.sheet(2, 0, -1), Due.SIZE);
        due.is("38: it isn't missing then", x.load(2), 3);
        due.is("38: above 40, with bits 0", x.sheet(2, 0, 41), Due.BEYOND);
        due.is("38: nor then", x.load(2), 3);
    }

    private static void writeAtTheEnds() {
        ValveRiver x = new ValveRiver();
        for (int s = 0; s < 4; s += 3) {
            x.sheet(s, 32, 12);
            due.is("39: the first number", x.write(s, 0, 77), 1);
            due.is("39: the last number", x.write(s, 11, 88), 1);
            x.level(0, 77);
            x.level(11, 88);
            due.is("39: they stand there", x.judge(s), 0);
        }
    }

    /** A number stands in a sheet of so many bits as this one, if it is 0 to 9999: a level to judge it by. */
    private static void comesAs(int bits, int v, int stands) {
        ValveRiver x = new ValveRiver();
        x.sheet(0, bits, 1);
        due.is("39: " + v + " in " + bits + " bits", x.write(0, 0, v), 1);
        x.level(0, stands);
        due.is("39: it stands there as " + stands, x.judge(0), 0);
        x.level(0, stands == 0 ? 1 : stands - 1);
        due.is("39: and not as another one", x.judge(0), 1);
    }

    /** It stands there as less than 0, so as no level; -1 alone is "any". */
    private static void comesBelowZero(int bits, int v, boolean any) {
        ValveRiver x = new ValveRiver();
        x.sheet(0, bits, 1);
        due.is("39: " + v + " in " + bits + " bits", x.write(0, 0, v), 1);
        due.is("39: it is no opening", x.load(0), 0);
        for (int level : new int[] {0, 128, 255, 256, 9999}) {
            x.level(0, level);
            due.is("39: nor the level " + level, x.judge(0), 1);
        }
        due.is("39: is it any", x.fits(0, 0, 0), any ? 100 : 0);
    }

    private static void writeInEightBits() {
        comesAs(8, 0, 0);
        comesAs(8, 127, 127);
        comesBelowZero(8, 128, false);
        comesBelowZero(8, 255, true);
        comesAs(8, 256, 0);
        comesAs(8, 256 + 127, 127);
        comesBelowZero(8, -1, true);
        comesBelowZero(8, -128, false);
        comesAs(8, -129, 127);
        comesAs(8, -256, 0);
        comesAs(8, MIN, 0);
        comesBelowZero(8, MAX, true);
    }

    private static void writeInSixteenBits() {
        comesAs(16, 0, 0);
        comesAs(16, 128, 128);
        comesAs(16, 255, 255);
        comesAs(16, 9999, 9999);
        comesAs(16, 65536, 0);
        comesAs(16, 65536 + 9999, 9999);
        comesBelowZero(16, 32768, false);
        comesBelowZero(16, 65535, true);
        comesBelowZero(16, -1, true);
        comesBelowZero(16, -32768, false);
        comesAs(16, -65536 + 5, 5);
        comesAs(16, MIN, 0);
        comesBelowZero(16, MAX, true);
    }

    private static void writeInThirtyTwoBits() {
        comesAs(32, 0, 0);
        comesAs(32, 9999, 9999);
        comesBelowZero(32, -1, true);
        comesBelowZero(32, -2, false);
        comesBelowZero(32, MIN, false);
        ValveRiver x = new ValveRiver();
        Rivers.row(x, 0, 32, MAX, 65536, 256);
        due.is("39: the greatest int is no level", x.judge(0), 1);
        due.is("39: nor is it any", x.fits(0, 0, 0), 0);
        x.copy(0, 1, 0, 0, 1);
        due.is("39: 65536 is not 0", x.judge(0), 1);
        x.copy(0, 2, 0, 0, 1);
        due.is("39: nor is 256", x.judge(0), 1);
        x.level(0, 256);
        x.level(1, 0);
        due.is("39: it is 256", x.judge(0), 2);
    }

    private static void stands(String told, ValveRiver x, int s, int... numbers) {
        for (int i = 0; i < numbers.length; i++) {
            x.level(i, numbers[i]);
        }
        due.is(told, x.judge(s), 0);
        due.is(told + ", and no more", x.write(s, numbers.length, 0), Due.BEYOND);
    }

    private static ValveRiver toCopy() {
        ValveRiver x = new ValveRiver();
        Rivers.row(x, 0, 16, 1, 2, 3, 4, 5);
        Rivers.row(x, 3, 16, 6, 7, 8);
        Rivers.row(x, 1, 16);
        return x;
    }

    private static void copyOfNone() {
        ValveRiver x = toCopy();
        due.is("40: none, from the begin", x.copy(0, 0, 3, 0, 0), 0);
        due.is("40: none, at both ends", x.copy(0, 5, 3, 3, 0), 0);
        due.is("40: none, of one that has none", x.copy(1, 0, 3, 0, 0), 0);
        due.is("40: none, to one that has none", x.copy(0, 5, 1, 0, 0), 0);
        due.is("40: none, of itself", x.copy(1, 0, 1, 0, 0), 0);
        due.is("40: one, of one that has none", x.copy(1, 0, 3, 0, 1), Due.BEYOND);
        due.is("40: one, to one that has none", x.copy(0, 0, 1, 0, 1), Due.BEYOND);
        due.is("40: none, behind the end", x.copy(1, 1, 3, 0, 0), Due.BEYOND);
        stands("40: nothing came", x, 3, 6, 7, 8);
    }

    private static void copyOfAll() {
        ValveRiver x = toCopy();
        due.is("40: all that there is room for", x.copy(0, 0, 3, 0, 3), 3);
        stands("40: the first three", x, 3, 1, 2, 3);
        due.is("40: up to the end", x.copy(0, 2, 3, 0, 3), 3);
        stands("40: the last three", x, 3, 3, 4, 5);
        due.is("40: the last to the last", x.copy(0, 4, 3, 2, 1), 1);
        due.is("40: the first to the last", x.copy(0, 0, 3, 2, 1), 1);
        stands("40: the last one alone", x, 3, 3, 4, 1);
        due.is("40: one more than there is room for", x.copy(0, 0, 3, 0, 4), Due.BEYOND);
        due.is("40: one more than there is", x.copy(3, 0, 0, 0, 4), Due.BEYOND);
        due.is("40: from the last sheet to the first", x.copy(3, 0, 0, 2, 3), 3);
        stands("40: what was ahead stays", x, 0, 1, 2, 3, 4, 1);
        int[] forty = new int[40];
        forty[39] = 9;
        Rivers.row(x, 0, 16, forty);
        x.sheet(3, 16, 40);
        due.is("40: all 40", x.copy(0, 0, 3, 0, 40), 40);
        due.is("40: 41", x.copy(0, 0, 3, 0, 41), Due.BEYOND);
        due.is("40: the 40th to the front", x.copy(3, 39, 3, 0, 1), 1);
        due.is("40: it came", x.load(3), 8);
        due.is("40: it is 9", x.opening(0), 9);
    }

    /** "(as they all were)" */
    private static void copyOnItself() {
        ValveRiver x = toCopy();
        due.is("40: one up", x.copy(0, 0, 0, 1, 4), 4);
        stands("40: as they were, up", x, 0, 1, 1, 2, 3, 4);
        Rivers.row(x, 0, 16, 1, 2, 3, 4, 5);
        due.is("40: one down", x.copy(0, 1, 0, 0, 4), 4);
        stands("40: as they were, down", x, 0, 2, 3, 4, 5, 5);
        Rivers.row(x, 0, 16, 1, 2, 3, 4, 5);
        due.is("40: on the very same", x.copy(0, 0, 0, 0, 5), 5);
        stands("40: as they are", x, 0, 1, 2, 3, 4, 5);
        due.is("40: half over", x.copy(0, 0, 0, 2, 3), 3);
        stands("40: as they were, half over", x, 0, 1, 2, 1, 2, 3);
    }

    private static void copyWithinItsBits() {
        for (int bits : new int[] {8, 16, 32}) {
            ValveRiver x = new ValveRiver();
            Rivers.row(x, 0, bits, -1, 127);
            x.sheet(1, bits, 2);
            due.is("40: both of " + bits + " bits", x.copy(0, 0, 1, 0, 2), 2);
            due.is("40: -1 stays -1", x.judge(1), 1);
            x.copy(1, 1, 1, 0, 1);
            stands("40: 127 stays 127", x, 1, 127, 127);
            for (int other : new int[] {8, 16, 32}) {
                if (other != bits) {
                    x.sheet(2, other, 2);
                    due.is("40: of " + bits + " to " + other, x.copy(0, 0, 2, 0, 1), Due.KIND);
                    due.is("40: of " + other + " to " + bits, x.copy(2, 0, 0, 0, 0), Due.KIND);
                }
            }
        }
    }

    private static void loadOfNone() {
        ValveRiver x = new ValveRiver();
        x.sheet(0, 8, 0);
        due.is("41: a sheet of none", x.load(0), 0);
        Rivers.row(x, 3, 16, 100, 1);
        due.is("41: the first is above 99", x.load(3), 0);
        Rivers.row(x, 3, 16, -1, 1);
        due.is("41: the first is below 0", x.load(3), 0);
        due.is("41: nothing came", x.now(6), 80);
    }

    private static void loadOfEight() {
        ValveRiver x = new ValveRiver();
        Rivers.row(x, 0, 8, 0, 99, 0, 99, 0, 99, 0, 99);
        due.is("41: a day", x.load(0), 8);
        due.is("41: hour 0", x.opening(0), 0);
        due.is("41: hour 7", x.opening(7), 99);
        Rivers.row(x, 0, 8, 1, 2, 3, 4, 5, 6, 7, 8, 9);
        due.is("41: no hour for the 9th", x.load(0), 8);
        due.is("41: eight came", x.now(6), 36);
        Rivers.row(x, 0, 8, 9, 8, 7, 6, 5, 4, 3);
        due.is("41: seven", x.load(0), 7);
        due.is("41: hour 7 stays", x.opening(7), 8);
        Rivers.row(x, 0, 8, 9, 8, 7, 6, 5, 4, 3, 2, 100);
        due.is("41: what is behind a day is no matter", x.load(0), 8);
        x.sheet(0, 32, 40);
        due.is("41: a full sheet", x.load(0), 8);
        due.is("41: all of it 0", x.now(6), 0);
    }

    private static void loadEndsAtTheFirst() {
        int[] wrong = {-1, 100, 9999, MIN, MAX};
        for (int w : wrong) {
            for (int place = 0; place < 8; place++) {
                ValveRiver x = new ValveRiver();
                x.sheet(0, 32, 9);
                x.write(0, place, w);
                due.is("41: up to " + w + " at " + place, x.load(0), place);
                due.is("41: those ahead of it came", x.now(6), 80 - 10 * place);
            }
        }
        ValveRiver x = new ValveRiver();
        Rivers.row(x, 0, 8, 99, 255, 99);
        due.is("41: 255 in 8 bits is below 0", x.load(0), 1);
        Rivers.row(x, 0, 8, 256 + 98, 97);
        due.is("41: its lowest bits alone came", x.load(0), 2);
        due.is("41: 98 of them", x.opening(0), 98);
    }

    private static void judgeOfNone() {
        ValveRiver x = new ValveRiver();
        x.sheet(3, 8, 0);
        due.is("42: a sheet of none is so", x.judge(3), 0);
        x.level(0, 9999);
        due.is("42: a sheet of none is so of any river", x.judge(3), 0);
    }

    private static void judgeOfTwelve() {
        ValveRiver x = new ValveRiver();
        x.sheet(0, 16, 12);
        for (int cell = 0; cell < 12; cell++) {
            x.write(0, cell, 9999 - cell);
            x.level(cell, 9999 - cell);
        }
        due.is("42: all of them", x.judge(0), 0);
        for (int cell = 0; cell < 12; cell++) {
            x.level(cell, 1);
            due.is("42: cell " + cell + " isn't so", x.judge(0), 1 + cell);
            x.level(cell, 9999 - cell);
        }
        x.level(3, 0);
        x.level(7, 0);
        due.is("42: the first of two", x.judge(0), 4);
    }

    /** A 13th number is the level of no cell, so it isn't so. */
    private static void judgeOfMore() {
        ValveRiver x = new ValveRiver();
        x.sheet(0, 8, 13);
        due.is("42: a 13th", x.judge(0), 13);
        x.sheet(0, 8, 40);
        due.is("42: a full sheet", x.judge(0), 13);
        x.level(11, 1);
        due.is("42: one ahead of the 13th", x.judge(0), 12);
    }

    private static void judgeAtTheEnds() {
        ValveRiver x = new ValveRiver();
        Rivers.row(x, 0, 32, 0);
        due.is("42: 0 is 0", x.judge(0), 0);
        Rivers.row(x, 0, 32, -1);
        due.is("42: -1 is no any here", x.judge(0), 1);
        Rivers.row(x, 0, 32, 10000);
        x.level(0, 9999);
        due.is("42: more than any level", x.judge(0), 1);
        Rivers.row(x, 0, 32, 9999);
        due.is("42: the most", x.judge(0), 0);
    }

    private static void image() {
        ValveRiver x = new ValveRiver();
        due.is("43: of a new one", x.image(), 1);
        due.is("43: again", x.image(), 1);
        due.is("44: nothing has changed", x.undo(), 0);
        due.is("43: of a full one", Rivers.full().image(), 1);
    }

    /** From a new one to a full one and back, and the other way. */
    private static void imageOfAllButTapeAndSheets() {
        ValveRiver x = new ValveRiver();
        x.image();
        for (int i = 0; i < 8; i++) {
            x.watcher(i % 7, 11);
            x.change(i, 2, 999);
            x.change(i, 3, 99);
            x.change(i, 4, 9999);
        }
        x.level(11, 9999);
        x.steady(99);
        for (int spot = 0; spot < 10; spot++) {
            x.hold(spot, 7);
        }
        x.seed(MIN);
        x.go(80);
        Due.feed(x, "ab");
        Rivers.row(x, 0, 8, 99);
        due.is("44: back to the begin", x.undo(), 0);
        int[] count = {0, 0, 0, 0, 0, 2, 1, 0};
        for (int what = 0; what < 8; what++) {
            due.is("44: count(" + what + ")", x.count(what), count[what]);
        }
        due.is("44: the sea", x.now(2), 0);
        due.is("44: the plan", x.now(6), 80);
        due.is("44: nobody is there", x.of(0, 0), Due.BEYOND);
        due.is("44: no spot holds anyone", x.as(9, 0), Due.MISSING);
        due.is("44: the sheet stays", x.load(0), 1);
        due.is("44: with its number", x.opening(0), 99);
        x.watcher(3, 4);
        int[] first = {3, 4, 5, 50, 0};
        for (int what = 0; what < 5; what++) {
            due.is("44: what " + what + " of one that is new", x.of(0, what), first[what]);
        }
        fullAndBack();
    }

    private static void fullAndBack() {
        ValveRiver x = Rivers.full();
        x.seed(MAX);
        x.image();
        for (int i = 0; i < 8; i++) {
            for (int what = 0; what < 5; what++) {
                x.change(i, what, 1);
            }
        }
        for (int spot = 0; spot < 10; spot++) {
            x.hold(spot, -1);
        }
        x.steady(0);
        x.seed(0);
        x.wipe();
        x.sheet(0, 0, 0);
        x.go(80);
        due.is("44: back to a full one", x.undo(), 0);
        for (int i = 0; i < 8; i++) {
            int[] were = {i % 7, i + 4, 5, 10 * i, 0};
            for (int what = 0; what < 5; what++) {
                due.is("44: what " + what + " of " + i, x.of(i, what), were[what]);
            }
        }
        due.is("44: levels", x.now(1), 12 * 9999);
        due.is("44: openings", x.now(6), 8 * 99);
        due.is("44: the sea is as it was", x.now(2), 0);
        due.is("44: z", x.count(6), MAX);
        for (int spot = 0; spot < 10; spot++) {
            due.is("44: spot " + spot, x.as(spot, 0), spot % 8);
        }
        due.is("44: the tape doesn't come back", x.count(5), 0);
        due.is("44: nor does the sheet", x.load(0), Due.MISSING);
    }

    /** "what was kept latest (which stays)" */
    private static void undoStays() {
        ValveRiver x = new ValveRiver();
        x.go(1);
        x.image();
        x.go(1);
        x.image();
        x.go(1);
        for (int i = 0; i < 3; i++) {
            due.is("44: the latest, time " + i, x.undo(), 2);
            x.level(0, 9999);
            x.watcher(0, 0);
            x.go(80);
        }
        due.is("44: the latest once more", x.undo(), 2);
        due.is("44: with its levels", x.now(1), 20);
        due.is("44: and nobody", x.count(1), 0);
    }

    private static void tear() {
        ValveRiver x = new ValveRiver();
        due.is("45: nothing was kept", x.tear(), 0);
        x.image();
        x.image();
        due.is("45: something was", x.tear(), 1);
        due.is("45: nothing is", x.tear(), 0);
        due.is("44: nothing to undo", x.undo(), Due.NONE);
        x.image();
        x.undo();
        due.is("45: it stayed behind undo()", x.tear(), 1);
        due.is("45: no finding but that one", x.status(-1), 1);
    }

    private static void count() {
        ValveRiver x = Rivers.full();
        int[] full = {0, 8, 1, 12 * 9999, 280, 120, 1, 10};
        for (int what = 0; what < 8; what++) {
            due.is("46: count(" + what + ") of a full one", x.count(what), full[what]);
        }
        for (int i = 0; i < 8; i++) {
            x.change(i, 3, 0);
        }
        due.is("46: all know", x.count(2), 8);
        due.is("46: none believes", x.count(4), 0);
        x.seed(-1000001);
        due.is("46: z like a finding", x.count(6), -1000001);
        due.is("46: which it isn't", x.status(-1), 0);
    }

    private static void status() {
        ValveRiver x = new ValveRiver();
        for (int which = -1; which < 7; which++) {
            due.is("47: none, of " + which, x.status(which), 0);
        }
        due.is("47: below -1", x.status(-2), Due.BEYOND);
        due.is("47: counted from then on", x.status(0), 1);
        due.is("47: above 6", x.status(7), Due.BEYOND);
        due.is("47: counted from then on, too", x.status(0), 2);
        due.is("47: the least int", x.status(MIN), Due.BEYOND);
        due.is("47: the greatest int", x.status(MAX), Due.BEYOND);
        due.is("47: all", x.status(-1), 4);
        due.is("47: no other", x.status(6), 0);
    }

    /** Each finding is met a number of times of its own, but STATE, which no 512 calls meet. */
    private static void statusCountsEachFinding() {
        ValveRiver x = Rivers.full();
        x.stands(12);
        x.feed(0, 1);
        x.watcher(0, 0);
        for (int i = 0; i < 3; i++) {
            x.as(0, 6);
        }
        for (int i = 0; i < 4; i++) {
            x.undo();
        }
        for (int i = 0; i < 5; i++) {
            x.load(1);
        }
        for (int i = 0; i < 6; i++) {
            x.sheet(1, 8, -1);
        }
        int[] met = {1, 2, 3, 4, 0, 5, 6};
        for (int which = 0; which < 7; which++) {
            due.is("47: of " + which, x.status(which), met[which]);
        }
        due.is("47: of all", x.status(-1), 21);
        due.is("47: a finding that is a long", x.odds(-1, 0), Due.BEYOND);
        due.is("47: counts, too", x.status(0), 2);
    }

    /** "(undo() takes none back)" */
    private static void statusIsNotTakenBack() {
        ValveRiver x = new ValveRiver();
        x.undo();
        x.image();
        x.stands(-1);
        x.undo();
        due.is("47: both are there still", x.status(-1), 2);
        due.is("47: the one ahead of the image", x.status(3), 1);
        due.is("47: the one behind it", x.status(0), 1);
        x.tear();
        due.is("47: tear() takes none back, either", x.status(-1), 2);
    }
}
