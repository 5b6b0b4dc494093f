/** Promises 36 to 42: spots, sheets. */
public final class SheetsTest {
    private static final Due due = new Due();

    public static void main(String[] args) {
        hold();
        as();
        sheet();
        write();
        copy();
        load();
        judge();
        due.end();
    }

    private static void hold() {
        ValveRiver x = new ValveRiver();
        due.is("hold(0, 0) of nobody", x.hold(0, 0), Due.BEYOND);
        due.is("hold(0, -1)", x.hold(0, -1), 1);
        x.watcher(0, 0);
        due.is("hold(0, 0)", x.hold(0, 0), 1);
        due.is("hold(9, 0)", x.hold(9, 0), 1);
        due.is("count(7)", x.count(7), 2);
        due.is("hold(9, 1)", x.hold(9, 1), Due.BEYOND);
        due.is("hold(9, -2)", x.hold(9, -2), Due.BEYOND);
        due.is("hold(10, 0)", x.hold(10, 0), Due.BEYOND);
        due.is("hold(-1, 0)", x.hold(-1, 0), Due.BEYOND);
        due.is("hold(10, -1)", x.hold(10, -1), Due.BEYOND);
        due.is("as(9, 0) still", x.as(9, 0), 0);
        due.is("hold(9, -1)", x.hold(9, -1), 1);
        due.is("as(9, 0)", x.as(9, 0), Due.MISSING);
        due.is("count(7)", x.count(7), 1);
    }

    private static void as() {
        ValveRiver x = new ValveRiver();
        x.watcher(0, 0);
        x.watcher(0, 0);
        x.hold(3, 1);
        int[] above = {0b1, 0b11, 0b101, 0b1101, 0b11101, 0b100001, 0b1000011};
        for (int kind = 0; kind < 7; kind++) {
            x.change(1, 0, kind);
            for (int as = 0; as < 7; as++) {
                boolean is = (above[kind] >> as & 1) == 1;
                due.is("as(3, " + as + ") of kind " + kind, x.as(3, as), is ? 1 : Due.KIND);
            }
        }
        due.is("as(4, 0)", x.as(4, 0), Due.MISSING);
        due.is("as(4, 7)", x.as(4, 7), Due.BEYOND);
        due.is("as(3, -1)", x.as(3, -1), Due.BEYOND);
        due.is("as(10, 0)", x.as(10, 0), Due.BEYOND);
        due.is("as(-1, 0)", x.as(-1, 0), Due.BEYOND);
        due.is("status(5)", x.status(5), 1);
    }

    private static void sheet() {
        ValveRiver x = new ValveRiver();
        due.is("sheet(0, 8, 40)", x.sheet(0, 8, 40), 40);
        due.is("sheet(3, 32, 0)", x.sheet(3, 32, 0), 0);
        due.is("judge(3)", x.judge(3), 0);
        due.is("sheet(0, 16, 41)", x.sheet(0, 16, 41), Due.BEYOND);
        due.is("sheet(0, 16, -1)", x.sheet(0, 16, -1), Due.SIZE);
        due.is("sheet(0, 0, -1)", x.sheet(0, 0, -1), Due.SIZE);
        due.is("sheet(0, 0, 41)", x.sheet(0, 0, 41), Due.BEYOND);
        due.is("sheet(0, 7, -1)", x.sheet(0, 7, -1), Due.BEYOND);
        due.is("sheet(0, 64, 1)", x.sheet(0, 64, 1), Due.BEYOND);
        due.is("sheet(0, -8, 1)", x.sheet(0, -8, 1), Due.BEYOND);
        due.is("sheet(4, 8, -1)", x.sheet(4, 8, -1), Due.BEYOND);
        due.is("sheet(-1, 8, 1)", x.sheet(-1, 8, 1), Due.BEYOND);
        due.is("write(0, 39, 1): it has 40 still", x.write(0, 39, 1), 1);
        due.is("sheet(0, 0, 40)", x.sheet(0, 0, 40), 0);
        due.is("judge(0)", x.judge(0), Due.MISSING);
        due.is("status(6)", x.status(6), 2);
        due.sheet(x, 1, 8, 5, 6);
        due.is("judge(1)", x.judge(1), 1);
        due.is("sheet(1, 8, 12)", x.sheet(1, 8, 12), 12);
        due.is("judge(1): all 0", x.judge(1), 0);
    }

    private static void write() {
        ValveRiver x = new ValveRiver();
        due.is("write(4, 0, 0)", x.write(4, 0, 0), Due.BEYOND);
        due.is("write(-1, 0, 0)", x.write(-1, 0, 0), Due.BEYOND);
        due.is("write(0, 99, 0)", x.write(0, 99, 0), Due.MISSING);
        int[] bits = {8, 16, 32};
        int[] kept = {127, 9999, 9999};
        for (int i = 0; i < 3; i++) {
            x.sheet(0, bits[i], 3);
            due.is("write(0, 3, 0)", x.write(0, 3, 0), Due.BEYOND);
            due.is("write(0, -1, 0)", x.write(0, -1, 0), Due.BEYOND);
            due.is("write(0, 2, " + kept[i] + ")", x.write(0, 2, kept[i]), 1);
            x.level(2, kept[i]);
            due.is("it stands there in " + bits[i], x.judge(0), 0);
        }
        // Only the lowest bits come: of 65536 + 77 those of 77, in 8 and 16 bits.
        x.level(2, 77);
        int[] judged = {0, 0, 3};
        for (int i = 0; i < 3; i++) {
            x.sheet(0, bits[i], 3);
            x.write(0, 2, 65536 + 77);
            due.is("65536 + 77 in " + bits[i], x.judge(0), judged[i]);
        }
        x.level(2, 200);
        x.sheet(0, 8, 3);
        x.write(0, 2, 200);
        due.is("200 in 8 bits is -56", x.judge(0), 3);
        x.sheet(0, 8, 0);
        due.is("write(0, 0, 0) where nothing is", x.write(0, 0, 0), Due.BEYOND);
    }

    private static void copy() {
        ValveRiver x = new ValveRiver();
        due.is("copy of no sheet", x.copy(4, 0, 0, 0, 0), Due.BEYOND);
        due.is("copy to no sheet", x.copy(0, 0, -1, 0, 0), Due.BEYOND);
        due.is("copy of a missing one", x.copy(0, 0, 1, 0, 0), Due.MISSING);
        due.sheet(x, 0, 16, 1, 2, 3, 4, 5);
        due.is("copy to a missing one", x.copy(0, 0, 1, 0, -1), Due.MISSING);
        due.is("copy from a missing one", x.copy(1, 0, 0, 0, -1), Due.MISSING);
        due.is("copy to no sheet, of a missing one", x.copy(1, 0, 4, 0, 0), Due.BEYOND);
        due.sheet(x, 1, 8, 0, 0);
        due.is("copy to fewer bits", x.copy(0, 0, 1, 0, -1), Due.KIND);
        due.sheet(x, 1, 16, 0, 0, 0);
        int[][] wrong = {{-1, 0, 1}, {0, -1, 1}, {0, 0, -1}, {0, 0, 4}, {3, 0, 3}, {0, 1, 3}, {6, 0, 0}, {0, 4, 0},
            {Integer.MAX_VALUE, 0, 1}, {1, 0, Integer.MAX_VALUE}, {Integer.MAX_VALUE, 0, Integer.MAX_VALUE}};
        for (int[] w : wrong) {
            due.is("copy of " + w[2] + " from " + w[0] + " to " + w[1], x.copy(0, w[0], 1, w[1], w[2]), Due.BEYOND);
        }
        due.is("copy of none at the end", x.copy(0, 5, 1, 3, 0), 0);
        due.is("copy(0, 2, 1, 0, 3)", x.copy(0, 2, 1, 0, 3), 3);
        row(x, 1, 3, 4, 5);
        due.sheet(x, 3, 16, 0, 0, 0);
        due.is("copy to the last one", x.copy(1, 0, 3, 0, 3), 3);
        row(x, 3, 3, 4, 5);
        due.sheet(x, 1, 16, 0, 0, 0);
        due.is("copy from the last one", x.copy(3, 1, 1, 0, 2), 2);
        row(x, 1, 4, 5, 0);
        due.is("copy on itself, up", x.copy(0, 0, 0, 1, 4), 4);
        row(x, 0, 1, 1, 2, 3, 4);
        due.sheet(x, 0, 16, 1, 2, 3, 4, 5);
        due.is("copy on itself, down", x.copy(0, 1, 0, 0, 4), 4);
        row(x, 0, 2, 3, 4, 5, 5);
    }

    private static void row(ValveRiver x, int s, int... numbers) {
        for (int i = 0; i < numbers.length; i++) {
            x.level(i, numbers[i]);
        }
        due.is("the row of sheet " + s, x.judge(s), 0);
    }

    private static void load() {
        ValveRiver x = new ValveRiver();
        due.is("load(-1)", x.load(-1), Due.BEYOND);
        due.is("load(4)", x.load(4), Due.BEYOND);
        due.is("load(0)", x.load(0), Due.MISSING);
        due.sheet(x, 0, 16);
        due.is("load of nothing", x.load(0), 0);
        due.sheet(x, 0, 16, 1, 99, 0, 100, 5);
        due.is("load up to 100", x.load(0), 3);
        due.sheet(x, 1, 16, 1, -1, 5);
        int[] plan = {1, 99, 0, 10, 10, 10, 10, 10};
        for (int hour = 0; hour < 8; hour++) {
            due.is("opening(" + hour + ")", x.opening(hour), plan[hour]);
        }
        due.is("load up to -1", x.load(1), 1);
        due.sheet(x, 2, 8, 1, 2, 3, 4, 5, 6, 7, 8, 9, 10);
        due.is("load of more than a day", x.load(2), 8);
        due.is("now(6)", x.now(6), 36);
        due.is("opening(7)", x.opening(7), 8);
    }

    private static void judge() {
        ValveRiver x = new ValveRiver();
        due.is("judge(-1)", x.judge(-1), Due.BEYOND);
        due.is("judge(4)", x.judge(4), Due.BEYOND);
        due.is("judge(0)", x.judge(0), Due.MISSING);
        x.level(0, 3);
        x.level(1, 300);
        due.sheet(x, 0, 16, 3, 300, 0, 0, 0, 0, 0, 0, 0, 0, 0, 0);
        due.is("judge of all 12", x.judge(0), 0);
        x.level(11, 1);
        due.is("judge with the last one other", x.judge(0), 12);
        x.level(0, 4);
        due.is("judge with the first one other", x.judge(0), 1);
        due.sheet(x, 1, 16, 4, 300, 0, 0, 0, 0, 0, 0, 0, 0, 0, 1, 0);
        due.is("judge of 13", x.judge(1), 13);
        due.sheet(x, 2, 16, -1);
        due.is("judge of -1", x.judge(2), 1);
    }
}
