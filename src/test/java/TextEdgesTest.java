/** The boundary cases of promises 33 to 35: the tape, and texts, with each number and each byte at its ends. */
public final class TextEdgesTest {
    private static final Due due = new Due();
    private static final String[] KINDS = {"watcher", "mill", "poet", "professor", "doubter", "fish", "bridge"};

    public static void main(String[] args) {
        feedOfOneToFour();
        feedTakesTheLowestBytes();
        feedUpToTheBrim();
        wipe();
        emptyTexts();
        cells();
        wants();
        beliefs();
        levels();
        plans();
        steadies();
        numbersOfManyDigits();
        numbersThatWouldWrapAround();
        withoutAnyOfThem();
        inThatOrderAlone();
        tokensAsLongAsCanBe();
        bytesThatBeginNoToken();
        bytesBesideThoseThatDo();
        blanks();
        endsTooEarly();
        wordsThatAreNone();
        signs();
        firstFaultCounts();
        eightWatchers();
        ninthWatcher();
        fullTape();
        itemByItem();
        faultChangesNothing();
        due.end();
    }

    /** The text is read by a new object: how many items it has. */
    private static ValveRiver good(String text, int items) {
        ValveRiver x = new ValveRiver();
        due.is("35: \"" + text + "\"", Due.text(x, text), items);
        due.is("35: the tape is empty behind it", x.count(5), 0);
        due.is("35: no finding", x.status(-1), 0);
        return x;
    }

    private static void fault(String text, int place) {
        ValveRiver x = new ValveRiver();
        due.is("35: \"" + text + "\"", Due.text(x, text), -1 - place);
        due.is("35: the tape is empty behind a fault", x.count(5), 0);
        due.is("35: a fault is no finding", x.status(-1), 0);
        due.is("35: nobody came", x.count(1), 0);
        due.is("35: no level came", x.now(1), 0);
        due.is("35: no opening came", x.now(6), 80);
    }

    private static void feedOfOneToFour() {
        ValveRiver x = new ValveRiver();
        int had = 0;
        for (int n = 1; n <= 4; n++) {
            had += n;
            due.is("33: " + n + " bytes", x.feed(0x20202020, n), had);
            due.is("33: it has so many", x.count(5), had);
        }
        due.is("33: 0 bytes", x.feed(0, 0), Due.BEYOND);
        due.is("33: 5 bytes", x.feed(0, 5), Due.BEYOND);
        due.is("33: it has as many still", x.count(5), 10);
    }

    private static void feedTakesTheLowestBytes() {
        ValveRiver x = new ValveRiver();
        x.feed('f' << 24 | 'i' << 16 | 's' << 8 | 'h', 4);
        due.is("33: 4, the highest first", x.text(), 1);
        x.feed('x' << 24 | 'f' << 16 | 'i' << 8 | 's', 3);
        x.feed('x' << 24 | 'y' << 16 | 'z' << 8 | 'h', 1);
        due.is("33: the 3 lowest, the lowest one", x.text(), 1);
        x.feed('x' << 24 | 'y' << 16 | 'f' << 8 | 'i', 2);
        x.feed(0x80000000 | 's' << 8 | 'h', 2);
        due.is("33: the 2 lowest", x.text(), 1);
        due.is("33: three fishes", x.count(1), 3);
        x.feed(-1, 4);
        due.is("33: bytes of 255 begin no token", x.text(), -1);
        x.feed(0, 4);
        due.is("33: nor do bytes of 0", x.text(), -1);
    }

    private static void feedUpToTheBrim() {
        for (int n = 1; n <= 4; n++) {
            ValveRiver x = new ValveRiver();
            for (int i = 0; i < 29; i++) {
                x.feed(0x20202020, 4);
            }
            for (int i = 4; i > n; i--) {
                x.feed(' ', 1);
            }
            due.is("33: " + n + " are left", x.count(5), 120 - n);
            if (n < 4) {
                due.is("33: one more than are left", x.feed(0x20202020, n + 1), Due.FULL);
            }
            due.is("33: as many as are left", x.feed(0x20202020, n), 120);
            due.is("33: one behind the last", x.feed(' ', 1), Due.FULL);
            due.is("33: how many are asked first", x.feed(' ', 0), Due.BEYOND);
            due.is("33: how many are asked first, too many", x.feed(' ', 5), Due.BEYOND);
            due.is("33: it has 120", x.count(5), 120);
            due.is("33: all of them blanks: it ends too early", x.text(), -121);
            due.is("33: there is room again", x.feed(0x20202020, 4), 4);
        }
    }

    private static void wipe() {
        ValveRiver x = new ValveRiver();
        due.is("34: nothing", x.wipe(), 0);
        x.feed(' ', 1);
        due.is("34: one", x.wipe(), 1);
        due.is("34: nothing again", x.wipe(), 0);
        ValveRiver full = Rivers.full();
        due.is("34: all", full.wipe(), 120);
        due.is("34: nothing is left", full.count(5), 0);
        full.feed('x', 1);
        due.is("34: what was there is gone", full.text(), -1);
    }

    private static void emptyTexts() {
        fault("", 0);
        fault(" ", 1);
        fault("   ", 3);
        fault(";", 0);
        fault(" ;", 1);
    }

    private static void cells() {
        for (int kind = 0; kind < 7; kind++) {
            due.is("35: the first cell", good(KINDS[kind] + " at 0", 1).of(0, 1), 0);
            ValveRiver x = good(KINDS[kind] + " at 11", 1);
            due.is("35: the last cell", x.of(0, 1), 11);
            due.is("35: the kind", x.of(0, 0), kind);
            fault(KINDS[kind] + " at 12", KINDS[kind].length() + 4);
        }
    }

    private static void wants() {
        due.is("35: wants 0", good("mill wants 0", 1).of(0, 2), 0);
        due.is("35: wants 999", good("mill wants 999", 1).of(0, 2), 999);
        fault("mill wants 1000", 11);
        fault("mill wants 9999", 11);
        fault("mill wants 10000", 11);
    }

    private static void beliefs() {
        due.is("35: believes 0", good("mill believes 0", 1).of(0, 3), 0);
        due.is("35: believes 99", good("mill believes 99", 1).of(0, 3), 99);
        fault("mill believes 100", 14);
        due.is("35: one that believes 0 knows", good("poet believes 0", 1).now(3), 1);
    }

    private static void levels() {
        due.is("35: the first cell's most", good("level 0 9999", 1).stands(0), 9999);
        due.is("35: the last cell's most", good("level 11 9999", 1).stands(11), 9999);
        due.is("35: the least", good("level 11 9999;level 11 0", 2).stands(11), 0);
        fault("level 12 0", 6);
        fault("level 12 10000", 6);
        fault("level 0 10000", 8);
        fault("level 11 10000", 9);
    }

    private static void plans() {
        due.is("35: the first hour's most", good("plan 0 99", 1).opening(0), 99);
        due.is("35: the last hour's most", good("plan 7 99", 1).opening(7), 99);
        due.is("35: the least", good("plan 7 0", 1).opening(7), 0);
        fault("plan 8 0", 5);
        fault("plan 8 100", 5);
        fault("plan 0 100", 7);
        fault("plan 7 100", 7);
    }

    private static void steadies() {
        due.is("35: the most", good("steady 99", 1).now(6), 8 * 99);
        due.is("35: the least", good("steady 0", 1).now(6), 0);
        fault("steady 100", 7);
    }

    private static void numbersOfManyDigits() {
        due.is("35: zeros ahead", good("level 0000000000000000000000000011 00000000000000000000009999", 1).stands(11), 9999);
        due.is("35: zeros alone", good("level 000 000", 1).stands(0), 0);
        fault("level 0 09999 ;;", 15);
        fault("level 0 010000", 8);
        fault("level 10000 0", 6);
        fault("10000", 0);
        fault("mill 10000", 5);
    }

    /** 2 to the 32nd, twice that, and the like are no cells, as they would be if they were cut. */
    private static void numbersThatWouldWrapAround() {
        fault("level 4294967296 0", 6);
        fault("level 8589934592 0", 6);
        fault("level 18446744073709551616 0", 6);
        fault("level 0 4294967295", 8);
        fault("level 0 2147483648", 8);
        fault("steady 99999999999999999999999999999999999999999999999999999999", 7);
        fault("steady 65536", 7);
        fault("steady 256", 7);
    }

    private static void withoutAnyOfThem() {
        for (int kind = 0; kind < 7; kind++) {
            ValveRiver x = good(KINDS[kind], 1);
            int[] first = {kind, 0, 5, 50, 0};
            for (int what = 0; what < 5; what++) {
                due.is("35: what " + what + " of a " + KINDS[kind], x.of(0, what), first[what]);
            }
        }
        for (int set = 0; set < 8; set++) {
            String text = "fish" + (set % 2 == 1 ? " at 3" : "") + (set / 2 % 2 == 1 ? " wants 44" : "")
                + (set / 4 == 1 ? " believes 55" : "");
            ValveRiver x = good(text, 1);
            due.is("35: cell of " + text, x.of(0, 1), set % 2 == 1 ? 3 : 0);
            due.is("35: want of " + text, x.of(0, 2), set / 2 % 2 == 1 ? 44 : 5);
            due.is("35: belief of " + text, x.of(0, 3), set / 4 == 1 ? 55 : 50);
        }
    }

    private static void inThatOrderAlone() {
        fault("fish wants 1 at 1", 13);
        fault("fish believes 1 at 1", 16);
        fault("fish believes 1 wants 1", 16);
        fault("fish at 1 at 1", 10);
        fault("fish wants 1 wants 1", 13);
        fault("fish believes 1 believes 1", 16);
        fault("fish at 1 1", 10);
        fault("level 1 1 1", 10);
        fault("plan 1 1 1", 9);
        fault("steady 1 1", 9);
        fault("level at 1", 6);
        fault("steady 1 at 1", 9);
    }

    private static void tokensAsLongAsCanBe() {
        good("fish at1wants2believes3", 1);
        good("level1 2;plan3 4;steady5", 3);
        due.is("35: 11 is one number", good("level 11 1", 1).stands(11), 1);
        fault("level 1", 7);
        fault("fishat 1", 0);
        fault("fish at1wantsx", 8);
        fault("fishfish", 0);
        fault("fish 1", 5);
        fault("fish1", 4);
        fault("1fish", 0);
        good("fish at 1;fish", 2);
        good("fish;fish", 2);
    }

    /** Each byte but letters, digits, ; and blanks begins no token, wherever it stands. */
    private static void bytesThatBeginNoToken() {
        for (int b = 0; b < 256; b++) {
            boolean begins = (b >= 'a' && b <= 'z') || (b >= '0' && b <= '9') || b == ';' || b == ' ';
            if (!begins) {
                fault("" + (char) b, 0);
                fault("fish at 3" + (char) b, 9);
                fault("fish" + (char) b, 4);
                fault("fish;" + (char) b + "fish", 5);
                fault("fish at " + (char) b + "3", 8);
            }
        }
    }

    private static void bytesBesideThoseThatDo() {
        fault("fish at 3 " + (char) ('a' - 1), 10);
        fault("fish at 3 " + (char) ('z' + 1), 10);
        fault("fish at 3 " + (char) ('0' - 1), 10);
        fault("fish at 3 " + (char) ('9' + 1), 10);
        fault("fish at 3 A", 10);
        fault("fish at 3 Z", 10);
        fault("fish at 3 a", 10);
        fault("fish at 3 z", 10);
        fault("fish at 3 0", 10);
        fault("fish at 3 9", 10);
        due.is("35: digits from 0 to 9", good("level 0 1089", 1).stands(0), 1089);
    }

    private static void blanks() {
        good("   fish   at   3   ;   level   2   1   ", 2);
        good("fish at 3 ", 1);
        good(" fish", 1);
        fault("fi sh", 0);
        fault("level 1 2 3", 10);
        due.is("35: a blank parts two numbers", good("level 1 2", 1).stands(1), 2);
        fault("fish\tat 3", 4);
        fault("fish\nat 3", 4);
        fault("fish\r", 4);
        fault("fish" + (char) 160, 4);
        fault("fish" + (char) 0, 4);
    }

    /** "how many bytes there are if it ends too early", the blanks at the end among them. */
    private static void endsTooEarly() {
        String[] texts = {"fish at", "fish wants", "fish believes", "fish at 1 wants", "fish at 1 wants 2 believes",
            "level", "level 1", "plan", "plan 1", "steady", "fish;", "fish at 1;", "steady 1;"};
        for (String text : texts) {
            fault(text, text.length());
            fault(text + "  ", text.length() + 2);
        }
    }

    private static void wordsThatAreNone() {
        for (String word : new String[] {"watcher", "mill", "poet", "professor", "doubter", "fish", "bridge", "level",
            "plan", "steady"}) {
            String rest = word.equals("level") || word.equals("plan") ? " 1 1" : word.equals("steady") ? " 1" : "";
            good(word + rest, 1);
            fault(word.substring(0, word.length() - 1) + rest, 0);
            fault(word.substring(1) + rest, 0);
            fault(word + "s" + rest, 0);
            fault("a" + word + rest, 0);
            fault(word.toUpperCase(java.util.Locale.ROOT) + rest, 0);
            for (int i = 0; i < word.length(); i++) {
                fault(word.substring(0, i) + "q" + word.substring(i + 1) + rest, 0);
            }
            for (char letter = 'a'; letter <= 'z'; letter++) {
                fault(word + letter + rest, 0);
            }
        }
        for (String word : new String[] {"at", "wants", "believes"}) {
            fault(word + " 1", 0);
            fault("fish " + word.substring(0, word.length() - 1) + " 1", 5);
            fault("fish " + word + "a 1", 5);
            fault("fish " + word + " x", 6 + word.length());
            fault("fish " + word + ";", 5 + word.length());
        }
    }

    private static void signs() {
        good("fish;fish;fish", 3);
        fault("fish;;fish", 5);
        fault("fish;fish;", 10);
        fault(";fish", 0);
        fault("fish fish", 5);
        fault("steady 1 steady 1", 9);
        fault("steady;1", 6);
        fault("level 1;1", 7);
        fault("plan;", 4);
    }

    private static void firstFaultCounts() {
        fault("level 12 10000;#", 6);
        fault("fish at 12;fish at 13", 8);
        fault("fish at 12 wants 1000 believes 100", 8);
        fault("fish at 1 wants 1000 believes 100", 16);
        fault("#;fish at 12", 0);
        fault("fish x #", 5);
        fault("level x", 6);
        fault("level 12", 6);
    }

    private static void eightWatchers() {
        ValveRiver x = good("fish;fish;fish;fish;fish;fish;fish;fish", 8);
        due.is("35: there are 8", x.count(1), 8);
        due.is("35: other items have room still", Due.text(x, "steady 3;level 0 1"), 2);
        due.is("35: they came", x.now(6), 24);
        ValveRiver seven = new ValveRiver();
        for (int i = 0; i < 7; i++) {
            seven.watcher(0, 0);
        }
        due.is("35: the 8th by a text", Due.text(seven, "bridge at 11"), 1);
        due.is("35: its number is 7", seven.of(7, 0), 6);
    }

    /** "the WORD of a 9th WATCHER: its own" */
    private static void ninthWatcher() {
        fault("fish;fish;fish;fish;fish;fish;fish;fish;fish", 40);
        fault("fish;fish;fish;fish;fish;fish;fish;fish; fish at 99", 41);
        for (String word : KINDS) {
            ValveRiver x = Rivers.full();
            due.is("35: a 9th " + word, Due.text(x, "steady 3; " + word + " at 3"), -1 - 10);
            due.is("35: and nothing of that text", x.now(6), 8 * 99);
            due.is("35: a 9th is no finding", x.status(-1), 0);
            due.is("35: there are 8", x.count(1), 8);
        }
    }

    private static void fullTape() {
        String begin = "fish at 3;level 2 44;steady ";
        String text = begin + "0".repeat(119 - begin.length()) + "7";
        due.is("35: 120 bytes", text.length(), 120);
        ValveRiver x = good(text, 3);
        due.is("35: the last byte counts", x.now(6), 56);
        fault(text.substring(0, 119) + ";", 120);
        fault(text.substring(0, 119) + "#", 119);
        fault(text.substring(0, 118) + " 7", 119);
        due.is("35: 119 bytes", good(text.substring(0, 119), 3).now(6), 0);
        fault("x".repeat(120), 0);
        fault("1".repeat(120), 0);
        fault(" ".repeat(120), 120);
        fault(";".repeat(120), 0);
        fault(" ".repeat(119) + "x", 119);
        good(" ".repeat(116) + "fish", 1);
        // A tape that was longer earlier has nothing of that behind its end.
        ValveRiver again = new ValveRiver();
        Due.text(again, "steady 1111");
        due.is("35: shorter than the one ahead", Due.text(again, "steady 1"), 1);
        due.is("35: its own number", again.now(6), 8);
        Due.feed(again, "steady 55");
        again.wipe();
        due.is("35: shorter than what was wiped", Due.text(again, "steady 5"), 1);
        due.is("35: its own number again", again.now(6), 40);
        // The most items that there is room for.
        ValveRiver many = new ValveRiver();
        due.is("35: 15 items of 7 bytes", Due.text(many, "steady1;".repeat(14) + "steady2"), 15);
        due.is("35: the last one", many.now(6), 16);
    }

    private static void itemByItem() {
        due.is("35: the later one", good("level 3 1;level 3 2", 2).stands(3), 2);
        due.is("35: plan behind steady", good("steady 1;plan 3 9", 2).now(6), 16);
        due.is("35: steady behind plan", good("plan 3 9;steady 1", 2).now(6), 8);
        ValveRiver x = good("mill;poet;fish", 3);
        int[] kinds = {1, 2, 5};
        for (int i = 0; i < 3; i++) {
            due.is("35: watcher " + i, x.of(i, 0), kinds[i]);
        }
    }

    /** "nothing changes but that THE TAPE is empty; no finding" */
    private static void faultChangesNothing() {
        String[] texts = {"level 3 1;level 4 x", "fish at 1 wants 2 believes 3;x", "plan 3 9;steady 1;plan 8 1",
            "fish;fish;fish;fish;fish;fish", "steady 4;", ""};
        for (String text : texts) {
            ValveRiver x = Rivers.peopled();
            ValveRiver twin = Rivers.peopled();
            due.is("35: a fault of \"" + text + "\"", Due.text(x, text) < 0 ? 1 : 0, 1);
            twin.wipe();
            for (int which = -1; which < 7; which++) {
                due.is("35: status(" + which + ")", x.status(which), twin.status(which));
            }
            due.is("35: all else is as it was", Rivers.seen(x).equals(Rivers.seen(twin)) ? 1 : 0, 1);
        }
    }
}
