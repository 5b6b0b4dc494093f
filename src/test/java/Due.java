/** Collects the answers that are not the ones that are due. */
final class Due {
    static final int BEYOND = -1000001;
    static final int FULL = -1000002;
    static final int KIND = -1000003;
    static final int NONE = -1000004;
    static final int STATE = -1000005;
    static final int MISSING = -1000006;
    static final int SIZE = -1000007;

    private int asked = 0;
    private int wrong = 0;

    void is(String call, long got, long due) {
        asked++;
        if (got != due) {
            wrong++;
            System.out.println(call + " answered " + got + ", due is " + due);
        }
    }

    /** Feeds a text, and reads it if that is wanted by text() behind it. */
    static void feed(ValveRiver x, String text) {
        for (int i = 0; i < text.length(); i++) {
            x.feed(text.charAt(i), 1);
        }
    }

    static int text(ValveRiver x, String text) {
        x.wipe();
        feed(x, text);
        return x.text();
    }

    void sheet(ValveRiver x, int s, int bits, int... numbers) {
        is("sheet(" + s + ", " + bits + ", " + numbers.length + ")", x.sheet(s, bits, numbers.length), numbers.length);
        for (int i = 0; i < numbers.length; i++) {
            is("write(" + s + ", " + i + ", " + numbers[i] + ")", x.write(s, i, numbers[i]), 1);
        }
    }

    void end() {
        System.out.println(asked + " answers asked, " + wrong + " wrong");
        if (wrong != 0) {
            System.exit(1);
        }
    }
}
