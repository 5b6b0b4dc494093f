/** Promises 43 to 47: images; counts; status. */
public final class ImagesTest {
    private static final Due due = new Due();

    public static void main(String[] args) {
        undo();
        keptTwice();
        tear();
        count();
        status();
        due.end();
    }

    private static void undo() {
        ValveRiver x = new ValveRiver();
        due.is("undo() of nothing", x.undo(), Due.NONE);
        x.go(3);
        x.level(5, 77);
        x.plan(2, 33);
        x.watcher(1, 4);
        x.change(0, 2, 8);
        x.change(0, 3, 9);
        x.change(0, 4, 10);
        x.hold(6, 0);
        x.seed(42);
        Due.feed(x, "ab");
        due.sheet(x, 0, 8, 1);
        int[] were = new int[7];
        for (int what = 0; what < 7; what++) {
            were[what] = x.now(what);
        }
        due.is("image()", x.image(), 1);
        due.is("now(0) stays", x.now(0), 3);
        x.level(11, 9999);
        x.go(50);
        x.steady(1);
        x.watcher(2, 2);
        for (int what = 0; what < 5; what++) {
            x.change(1, what, 1);
        }
        x.hold(1, 1);
        x.hold(6, -1);
        for (int what = 0; what < 5; what++) {
            x.change(0, what, 6);
        }
        x.seed(43);
        Due.feed(x, "c");
        x.write(0, 0, 2);
        x.sheet(1, 8, 1);
        x.stands(12);
        due.is("undo()", x.undo(), 3);
        for (int what = 0; what < 7; what++) {
            due.is("now(" + what + ") behind undo()", x.now(what), were[what]);
        }
        int[] of = {1, 4, 8, 9, 10};
        for (int what = 0; what < 5; what++) {
            due.is("of(0, " + what + ") behind undo()", x.of(0, what), of[what]);
        }
        due.is("stands(5)", x.stands(5), 77);
        due.is("opening(2)", x.opening(2), 33);
        due.is("count(1)", x.count(1), 1);
        due.is("seed(42)", x.seed(42), 42);
        due.is("as(6, 0)", x.as(6, 0), 0);
        due.is("count(7)", x.count(7), 1);
        due.is("the tape stays", x.count(5), 3);
        x.level(0, 2);
        due.is("the sheet stays", x.judge(0), 0);
        due.is("the other sheet stays", x.write(1, 0, 0), 1);
        due.is("findings stay", x.status(-1), 2);
        x.go(9);
        due.is("undo() again: it stays", x.undo(), 3);
        due.is("stands(5)", x.stands(5), 77);
        due.is("a new one behind undo()", x.watcher(3, 7), 1);
        int[] begin = {3, 7, 5, 50, 0};
        for (int what = 0; what < 5; what++) {
            due.is("of(1, " + what + ") is as at first", x.of(1, what), begin[what]);
        }
    }

    private static void keptTwice() {
        ValveRiver x = new ValveRiver();
        x.image();
        x.go(5);
        x.image();
        x.go(1);
        due.is("undo() of the latest", x.undo(), 5);
        due.is("undo() of the latest again", x.undo(), 5);
    }

    private static void tear() {
        ValveRiver x = new ValveRiver();
        due.is("tear() of nothing", x.tear(), 0);
        x.image();
        x.image();
        x.go(2);
        due.is("tear()", x.tear(), 1);
        due.is("tear() again", x.tear(), 0);
        due.is("undo()", x.undo(), Due.NONE);
        due.is("now(0) stays", x.now(0), 2);
        due.is("image()", x.image(), 1);
        due.is("undo()", x.undo(), 2);
    }

    private static void count() {
        ValveRiver x = new ValveRiver();
        x.go(4);
        x.watcher(0, 0);
        x.watcher(0, 11);
        x.watcher(0, 11);
        x.change(0, 3, 0);
        x.change(1, 3, 0);
        x.change(2, 3, 31);
        x.level(11, 1000);
        Due.feed(x, "abcde");
        x.seed(-9);
        x.hold(0, 2);
        x.hold(1, 2);
        x.hold(9, 0);
        x.hold(1, -1);
        int[] answers = {4, 3, 2, 1040, 31, 5, -9, 2};
        for (int what = 0; what < 8; what++) {
            due.is("count(" + what + ")", x.count(what), answers[what]);
        }
        due.is("count(8)", x.count(8), Due.BEYOND);
        due.is("count(-1)", x.count(-1), Due.BEYOND);
    }

    private static void status() {
        ValveRiver x = new ValveRiver();
        x.stands(12);
        x.stands(13);
        for (int i = 0; i < 10; i++) {
            x.watcher(0, 0);
        }
        x.hold(0, 0);
        x.as(0, 1);
        x.undo();
        x.undo();
        x.undo();
        x.load(0);
        x.sheet(0, 8, -1);
        x.odds(99, 0);
        int[] findings = {3, 2, 1, 3, 0, 1, 1};
        for (int which = 0; which < 7; which++) {
            due.is("status(" + which + ")", x.status(which), findings[which]);
        }
        due.is("status(-1)", x.status(-1), 11);
        due.is("status(7)", x.status(7), Due.BEYOND);
        due.is("status(-2)", x.status(-2), Due.BEYOND);
        due.is("status(0) behind these", x.status(0), 5);
        due.is("status(-1) behind these", x.status(-1), 13);
    }
}
