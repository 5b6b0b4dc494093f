import java.util.ArrayList;
import java.util.List;

/** Rivers to begin with, and all that can be seen of one. */
final class Rivers {
    private Rivers() {
    }

    static ValveRiver fresh() {
        return new ValveRiver();
    }

    /** Something of everything: three watchers, sheets of each width and a missing one, a tape, an image that differs. */
    static ValveRiver peopled() {
        ValveRiver x = new ValveRiver();
        x.watcher(2, 0);
        x.watcher(1, 4);
        x.watcher(4, 11);
        x.change(0, 2, 7);
        x.change(1, 3, 80);
        x.change(1, 4, 12);
        x.change(2, 3, 15);
        x.plan(2, 30);
        x.level(9, 70);
        x.go(3);
        row(x, 0, 8, 1, 2, 3);
        row(x, 1, 16, 40, 5, 60, 7, 80);
        row(x, 2, 32, 9);
        x.hold(0, 1);
        x.hold(9, 2);
        x.seed(77);
        x.image();
        x.go(2);
        x.level(3, 50);
        x.plan(5, 20);
        x.seed(78);
        x.hold(4, 0);
        Due.feed(x, "steady 33;mill");
        return x;
    }

    /** All that can be full is full: watchers, tape, a sheet, spots. */
    static ValveRiver full() {
        ValveRiver x = new ValveRiver();
        for (int i = 0; i < 8; i++) {
            x.watcher(i % 7, i + 4);
            x.change(i, 3, 10 * i);
        }
        for (int spot = 0; spot < 10; spot++) {
            x.hold(spot, spot % 8);
        }
        for (int cell = 0; cell < 12; cell++) {
            x.level(cell, 9999);
        }
        x.steady(99);
        for (int i = 0; i < 29; i++) {
            x.feed(0x20202020, 4);
        }
        x.feed(('f' << 24) | ('i' << 16) | ('s' << 8) | 'h', 4);
        x.sheet(0, 8, 40);
        x.write(0, 39, 99);
        return x;
    }

    /** Every cell gives 10 and gets 10. */
    static ValveRiver even() {
        ValveRiver x = new ValveRiver();
        for (int cell = 0; cell < 12; cell++) {
            x.level(cell, 20);
        }
        return x;
    }

    /** No water at all, but for what an hour of the day brings. */
    static ValveRiver dryBut(int hour, int opening) {
        ValveRiver x = new ValveRiver();
        x.steady(0);
        x.plan(hour, opening);
        return x;
    }

    /** A bridge that bears 30, never has what it wants, and so only loses: 1 with each change by more. */
    static void wearingBridge(ValveRiver x, int cell, int belief) {
        int number = x.watcher(6, cell);
        x.change(number, 2, 109);
        x.change(number, 3, belief);
    }

    static void row(ValveRiver x, int s, int bits, int... numbers) {
        x.sheet(s, bits, numbers.length);
        for (int i = 0; i < numbers.length; i++) {
            x.write(s, i, numbers[i]);
        }
    }

    /** All that later calls could tell of an object but status; that uses it up. */
    static List<Long> seen(ValveRiver x) {
        List<Long> seen = new ArrayList<>();
        water(x, seen);
        valley(x, seen);
        for (int s = 0; s < 4; s++) {
            sheet(x, s, seen);
        }
        seen.add((long) x.text());
        water(x, seen);
        seen.add((long) x.undo());
        water(x, seen);
        valley(x, seen);
        return seen;
    }

    private static void water(ValveRiver x, List<Long> seen) {
        for (int cell = 0; cell < 12; cell++) {
            seen.add((long) x.stands(cell));
        }
        for (int hour = 0; hour < 8; hour++) {
            seen.add((long) x.opening(hour));
        }
        for (int what = 0; what < 8; what++) {
            seen.add((long) x.count(what));
        }
        seen.add((long) x.now(2));
    }

    private static void valley(ValveRiver x, List<Long> seen) {
        int watchers = x.count(1);
        for (int watcher = 0; watcher < watchers; watcher++) {
            for (int what = 0; what < 5; what++) {
                seen.add((long) x.of(watcher, what));
            }
        }
        for (int spot = 0; spot < 10; spot++) {
            seen.add((long) x.as(spot, 0));
        }
    }

    /** Brings one number after another to the front, where it becomes the opening of hour 0. */
    private static void sheet(ValveRiver x, int s, List<Long> seen) {
        int size = 0;
        while (size < 40 && x.copy(s, size, s, 0, 1) == 1) {
            seen.add((long) x.load(s));
            seen.add((long) x.opening(0));
            size++;
        }
        seen.add((long) size);
        seen.add((long) x.write(s, 0, 0x10107));
        // 7 in 8 bits, 263 in 16, neither in 32.
        x.level(0, 7);
        seen.add(x.judge(s) == 1 ? 1L : 0L);
        x.level(0, 263);
        seen.add(x.judge(s) == 1 ? 1L : 0L);
    }
}
