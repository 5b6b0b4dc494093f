/** A river that begins in a valve, and those further down who believe it to be natural. */
public final class ValveRiver {
    private static final int BEYOND = -1000001;
    private static final int FULL = BEYOND - 1;
    private static final int KIND = BEYOND - 2;
    private static final int NONE = BEYOND - 3;
    private static final int STATE = BEYOND - 4;
    private static final int MISSING = BEYOND - 5;
    private static final int SIZE = BEYOND - 6;
    private static final int FINDINGS = 7;
    private static final int NO_FINDING = 0;

    private static final int CELLS = 12;
    private static final int HOURS = 8;
    private static final int WATCHERS = 8;
    private static final int SPOTS = 10;
    private static final int SHEETS = 4;
    private static final int SHEET_ROOM = 40;
    private static final int TAPE_ROOM = 120;

    private static final int MOST_LEVEL = 9999;
    private static final int MOST_OPENING = 99;
    private static final int MOST_SEA = 999999;
    private static final int MOST_WANT = 999;
    private static final int MOST_BELIEF = 99;
    private static final int MOST_THIRST = 9999;
    private static final int MOST_HOUR = 99999;
    private static final int MOST_NUMBER = 9999;

    private static final int MOST_GONE = 80;
    private static final int MOST_AHEAD = 100;
    private static final int MOST_AWAITED = 200;
    private static final int MOST_ENOUGH = 80;
    private static final int MOST_TRIED = 60;
    private static final int MOST_ASLEEP = 60;
    private static final int MOST_AWAKE = 20;
    private static final int MOST_NIGHTS = 20;
    private static final int NIGHT_OPENINGS = 40;

    private static final int WATCHER = 0;
    private static final int MILL = 1;
    private static final int POET = 2;
    private static final int PROFESSOR = 3;
    private static final int DOUBTER = 4;
    private static final int FISH = 5;
    private static final int BRIDGE = 6;
    private static final int KINDS = 7;

    private static final int NOTHING = -1;
    private static final int ANY = -1;

    private final Valley valley = new Valley();
    private final Valley kept = new Valley();
    /** Where a call looks ahead, so that nothing changes in the valley itself. */
    private final Valley trial = new Valley();
    private final Valley asleep = new Valley();
    private final int[] stirred = new int[CELLS];
    private final Sheet[] sheets = {new Sheet(), new Sheet(), new Sheet(), new Sheet()};
    private final Reader reader = new Reader();
    private final int[] findings = new int[FINDINGS];
    private boolean isKept = false;

    public ValveRiver() {
    }

    // ---- river, plan, watchers

    public int level(int cell, int v) {
        if (outside(cell, CELLS - 1) || outside(v, MOST_LEVEL)) {
            return finding(BEYOND);
        }
        int was = valley.water.levels[cell];
        valley.water.levels[cell] = v;
        return was;
    }

    public int stands(int cell) {
        if (outside(cell, CELLS - 1)) {
            return finding(BEYOND);
        }
        return valley.water.levels[cell];
    }

    public int plan(int hour, int v) {
        if (outside(hour, HOURS - 1) || outside(v, MOST_OPENING)) {
            return finding(BEYOND);
        }
        int was = valley.water.openings[hour];
        valley.water.openings[hour] = v;
        return was;
    }

    public int opening(int hour) {
        if (outside(hour, HOURS - 1)) {
            return finding(BEYOND);
        }
        return valley.water.openings[hour];
    }

    public int steady(int v) {
        if (outside(v, MOST_OPENING)) {
            return finding(BEYOND);
        }
        int were = valley.water.openingsTogether();
        valley.water.openAll(v);
        return were;
    }

    public int watcher(int kind, int cell) {
        if (outside(kind, KINDS - 1) || outside(cell, CELLS - 1)) {
            return finding(BEYOND);
        }
        if (valley.isFull()) {
            return finding(FULL);
        }
        return valley.settle(kind, cell);
    }

    public int of(int watcher, int what) {
        if (noWatcher(watcher)) {
            return finding(BEYOND);
        }
        Watcher one = valley.watchers[watcher];
        switch (what) {
            case 0: return one.kind;
            case 1: return one.cell;
            case 2: return one.want;
            case 3: return one.belief;
            case 4: return one.thirst;
            case 5: return one.bears();
            case 6: return one.doubts();
            case 7: return one.trusts();
            default: return finding(BEYOND);
        }
    }

    public int change(int watcher, int what, int v) {
        if (noWatcher(watcher) || outside(v, mostOf(what))) {
            return finding(BEYOND);
        }
        return valley.watchers[watcher].set(what, v);
    }

    // ---- hours

    public int go(int n) {
        if (n < 1 || n > MOST_GONE) {
            return finding(BEYOND);
        }
        if (valley.water.hour + n > MOST_HOUR) {
            return finding(STATE);
        }
        valley.pass(n);
        return valley.knowing();
    }

    public int now(int what) {
        switch (what) {
            case 0: return valley.water.hour;
            case 1: return valley.water.levelsTogether();
            case 2: return valley.water.sea;
            case 3: return valley.knowing();
            case 4: return valley.lacking();
            case 5: return valley.beliefsTogether();
            case 6: return valley.water.openingsTogether();
            default: return finding(BEYOND);
        }
    }

    // ---- what will be (nothing changes)

    public int ahead(int cell, int n) {
        if (outside(cell, CELLS - 1) || outside(n, MOST_AHEAD)) {
            return finding(BEYOND);
        }
        Water water = waterTried();
        water.run(n);
        return water.levels[cell];
    }

    public int belief(int watcher, int what, int n) {
        if (noWatcher(watcher) || (what != 3 && what != 4) || outside(n, MOST_AHEAD)) {
            return finding(BEYOND);
        }
        trial.become(valley);
        trial.pass(n);
        Watcher one = trial.watchers[watcher];
        return what == 3 ? one.belief : one.thirst;
    }

    public int when(int watcher) {
        if (noWatcher(watcher)) {
            return finding(BEYOND);
        }
        trial.become(valley);
        for (int hours = 0; hours <= MOST_AWAITED; hours++) {
            if (trial.watchers[watcher].knows()) {
                return hours;
            }
            trial.pass(1);
        }
        return finding(NONE);
    }

    public int first() {
        trial.become(valley);
        for (int hours = 0; hours <= MOST_AWAITED; hours++) {
            int knowing = trial.knowing();
            if (knowing != 0) {
                return Integer.numberOfTrailingZeros(knowing);
            }
            trial.pass(1);
        }
        return finding(NONE);
    }

    public int reaches(int cell, int v) {
        if (outside(cell, CELLS - 1) || outside(v, MOST_LEVEL)) {
            return finding(BEYOND);
        }
        Water water = waterTried();
        for (int hours = 0; hours <= MOST_AWAITED; hours++) {
            if (water.levels[cell] >= v) {
                return hours;
            }
            water.run(1);
        }
        return finding(NONE);
    }

    public int range(int cell, int n, int what) {
        if (outside(cell, CELLS - 1) || outside(n, MOST_AHEAD) || outside(what, 1)) {
            return finding(BEYOND);
        }
        Water water = waterTried();
        int least = water.levels[cell];
        int greatest = least;
        for (int hours = 1; hours <= n; hours++) {
            water.run(1);
            least = Math.min(least, water.levels[cell]);
            greatest = Math.max(greatest, water.levels[cell]);
        }
        return what == 0 ? least : greatest;
    }

    // ---- what to open

    public int enough(int n) {
        if (outside(n, MOST_ENOUGH)) {
            return finding(BEYOND);
        }
        // More let in never leaves less anywhere, so those that are too little
        // are the lowest ones, and how many they are is found bit by bit.
        int tooLittle = 0;
        for (int step = 64; step > 0; step = step / 2) {
            int more = tooLittle + step;
            if (more - 1 <= MOST_OPENING && !isEnough(more - 1, n)) {
                tooLittle = more;
            }
        }
        return tooLittle > MOST_OPENING ? finding(NONE) : tooLittle;
    }

    public int hide(int v, int n) {
        if (outside(v, MOST_OPENING) || outside(n, MOST_TRIED)) {
            return finding(BEYOND);
        }
        int best = 0;
        int fewest = WATCHERS + 1;
        for (int hour = 0; hour < HOURS; hour++) {
            trial.become(valley);
            trial.water.openings[hour] = v;
            trial.pass(n);
            int knowing = Integer.bitCount(trial.knowing());
            if (knowing < fewest) {
                fewest = knowing;
                best = hour;
            }
        }
        return best;
    }

    public int safe(int hour, int n) {
        if (outside(hour, HOURS - 1) || outside(n, MOST_TRIED)) {
            return finding(BEYOND);
        }
        int known = valley.knowing();
        for (int v = 0; v <= MOST_OPENING; v++) {
            trial.become(valley);
            trial.water.openings[hour] = v;
            if (trial.staysHidden(n, known)) {
                return v;
            }
        }
        return finding(NONE);
    }

    public int sleep(int n) {
        if (outside(n, MOST_AWAKE)) {
            return finding(BEYOND);
        }
        int known = valley.knowing();
        int most = -1;
        asleep.become(valley);
        for (int hours = 0; hours <= MOST_ASLEEP && asleep.knowing() == known; hours++) {
            trial.become(asleep);
            if (trial.staysHidden(n, known)) {
                most = hours;
            }
            asleep.passShut();
        }
        return most < 0 ? finding(NONE) : most;
    }

    public int turns() {
        int[] openings = valley.water.openings;
        int turns = 0;
        for (int hour = 0; hour < HOURS; hour++) {
            if (openings[hour] != openings[(hour + HOURS - 1) % HOURS]) {
                turns++;
            }
        }
        return turns;
    }

    // ---- watchers tried

    public int seat(int watcher, int n) {
        return noTrial(watcher, n) ? finding(BEYOND) : mostBelieving(watcher, 1, n);
    }

    public int kindFor(int watcher, int n) {
        return noTrial(watcher, n) ? finding(BEYOND) : mostBelieving(watcher, 0, n);
    }

    public int wantFor(int watcher, int n) {
        if (noTrial(watcher, n)) {
            return finding(BEYOND);
        }
        Watcher one = valley.watchers[watcher];
        if (one.thirst == MOST_THIRST) {
            return MOST_WANT;
        }
        // Thirst stays as it is only if the cell has what is wanted in every hour.
        Water water = waterTried();
        int want = MOST_WANT;
        for (int hours = 1; hours <= n; hours++) {
            water.run(1);
            want = Math.min(want, water.levels[one.cell]);
        }
        return want;
    }

    public int watch(int n) {
        if (n < 1 || n > MOST_TRIED) {
            return finding(BEYOND);
        }
        stir(n);
        int best = 0;
        for (int cell = 1; cell < CELLS; cell++) {
            if (stirred[cell] > stirred[best]) {
                best = cell;
            }
        }
        return best;
    }

    // ---- what he opened

    public int fits(int s, int hour, int cell) {
        int trouble = fittingTrouble(s, hour, cell);
        if (trouble != NO_FINDING) {
            return finding(trouble);
        }
        int fitting = 0;
        for (int v = 0; v <= MOST_OPENING; v++) {
            if (couldBeOpened(v, sheets[s], hour, cell)) {
                fitting++;
            }
        }
        return fitting;
    }

    public int opened(int s, int hour, int cell) {
        int trouble = fittingTrouble(s, hour, cell);
        if (trouble != NO_FINDING) {
            return finding(trouble);
        }
        for (int v = 0; v <= MOST_OPENING; v++) {
            if (couldBeOpened(v, sheets[s], hour, cell)) {
                return v;
            }
        }
        return finding(NONE);
    }

    public int kinds(int s, int watcher) {
        int trouble = sheetTrouble(s);
        if (trouble != NO_FINDING) {
            return finding(trouble);
        }
        if (noWatcher(watcher)) {
            return finding(BEYOND);
        }
        int set = 0;
        for (int kind = 0; kind < KINDS; kind++) {
            if (couldBeOfKind(kind, sheets[s], watcher)) {
                set |= 1 << kind;
            }
        }
        return set;
    }

    // ---- nights

    public int nights(int n) {
        if (n < 1 || n > MOST_NIGHTS) {
            return finding(BEYOND);
        }
        if (valley.water.hour + n > MOST_HOUR) {
            return finding(STATE);
        }
        for (int night = 0; night < n; night++) {
            int hour = valley.draw() % HOURS;
            valley.water.openings[hour] = valley.draw() % NIGHT_OPENINGS;
            valley.pass(1);
        }
        return Integer.bitCount(valley.knowing());
    }

    public long odds(int n, int what) {
        if (outside(n, MOST_NIGHTS) || outside(what, 1)) {
            return finding(BEYOND);
        }
        int open = valley.water.hoursOpen();
        // Powers of a fraction in lowest terms are in lowest terms.
        int common = commonDivisor(open);
        return power(what == 0 ? open / common : HOURS / common, n);
    }

    public int seed(int v) {
        int was = valley.z;
        valley.z = v;
        return was;
    }

    // ---- texts

    public int feed(int bytes, int n) {
        if (n < 1 || n > 4) {
            return finding(BEYOND);
        }
        if (reader.length + n > TAPE_ROOM) {
            return finding(FULL);
        }
        for (int i = n - 1; i >= 0; i--) {
            reader.put((bytes >>> (8 * i)) & 255);
        }
        return reader.length;
    }

    public int wipe() {
        int had = reader.length;
        reader.length = 0;
        return had;
    }

    public int text() {
        trial.become(valley);
        int items = reader.read(trial);
        reader.length = 0;
        if (reader.hasFault()) {
            return -1 - reader.fault;
        }
        valley.become(trial);
        return items;
    }

    // ---- spots, sheets

    public int hold(int spot, int watcher) {
        if (outside(spot, SPOTS - 1) || (watcher != NOTHING && noWatcher(watcher))) {
            return finding(BEYOND);
        }
        valley.spots[spot] = watcher;
        return 1;
    }

    public int as(int spot, int kind) {
        if (outside(spot, SPOTS - 1) || outside(kind, KINDS - 1)) {
            return finding(BEYOND);
        }
        int held = valley.spots[spot];
        if (noWatcher(held)) {
            return finding(MISSING);
        }
        return valley.watchers[held].isUnder(kind) ? held : finding(KIND);
    }

    public int sheet(int s, int bits, int n) {
        if (outside(s, SHEETS - 1) || (bits != 0 && bits != 8 && bits != 16 && bits != 32)) {
            return finding(BEYOND);
        }
        if (n < 0) {
            return finding(SIZE);
        }
        if (n > SHEET_ROOM) {
            return finding(BEYOND);
        }
        sheets[s].lay(bits, n);
        return sheets[s].size;
    }

    public int write(int s, int i, int v) {
        int trouble = sheetTrouble(s);
        if (trouble != NO_FINDING) {
            return finding(trouble);
        }
        if (outside(i, sheets[s].size - 1)) {
            return finding(BEYOND);
        }
        sheets[s].put(i, v);
        return 1;
    }

    public int copy(int s, int from, int t, int to, int n) {
        if (outside(s, SHEETS - 1) || outside(t, SHEETS - 1)) {
            return finding(BEYOND);
        }
        Sheet source = sheets[s];
        Sheet target = sheets[t];
        if (source.isMissing() || target.isMissing()) {
            return finding(MISSING);
        }
        if (source.bits != target.bits) {
            return finding(KIND);
        }
        if (!source.has(from, n) || !target.has(to, n)) {
            return finding(BEYOND);
        }
        System.arraycopy(source.numbers, from, target.numbers, to, n);
        return n;
    }

    public int load(int s) {
        int trouble = sheetTrouble(s);
        if (trouble != NO_FINDING) {
            return finding(trouble);
        }
        Sheet sheet = sheets[s];
        int came = 0;
        while (came < sheet.size && came < HOURS && !outside(sheet.numbers[came], MOST_OPENING)) {
            valley.water.openings[came] = sheet.numbers[came];
            came++;
        }
        return came;
    }

    public int judge(int s) {
        int trouble = sheetTrouble(s);
        if (trouble != NO_FINDING) {
            return finding(trouble);
        }
        Sheet sheet = sheets[s];
        for (int i = 0; i < sheet.size; i++) {
            if (i >= CELLS || sheet.numbers[i] != valley.water.levels[i]) {
                return 1 + i;
            }
        }
        return 0;
    }

    // ---- images

    public int image() {
        kept.become(valley);
        isKept = true;
        return 1;
    }

    public int undo() {
        if (!isKept) {
            return finding(NONE);
        }
        valley.become(kept);
        return valley.water.hour;
    }

    public int tear() {
        int was = isKept ? 1 : 0;
        isKept = false;
        return was;
    }

    public int count(int what) {
        switch (what) {
            case 0: return valley.water.hour;
            case 1: return valley.settled;
            case 2: return Integer.bitCount(valley.knowing());
            case 3: return valley.water.levelsTogether();
            case 4: return valley.beliefsTogether();
            case 5: return reader.length;
            case 6: return valley.z;
            case 7: return valley.spotsHolding();
            default: return finding(BEYOND);
        }
    }

    public int status(int which) {
        if (which == -1) {
            return together(findings);
        }
        if (outside(which, FINDINGS - 1)) {
            return finding(BEYOND);
        }
        return findings[which];
    }

    // ---- what the calls share

    private static boolean outside(int v, int most) {
        return v < 0 || v > most;
    }

    private static int together(int[] numbers) {
        int sum = 0;
        for (int i = 0; i < numbers.length; i++) {
            sum += numbers[i];
        }
        return sum;
    }

    private int finding(int which) {
        int place = BEYOND - which;
        if (place >= 0 && place < FINDINGS) {
            findings[place]++;
        }
        return which;
    }

    private boolean noWatcher(int watcher) {
        return outside(watcher, valley.settled - 1);
    }

    private boolean noTrial(int watcher, int n) {
        return noWatcher(watcher) || outside(n, MOST_TRIED);
    }

    /** The greatest that can be changed in; below 0, so that nothing fits, if there is no such thing. */
    private static int mostOf(int what) {
        switch (what) {
            case 0: return KINDS - 1;
            case 1: return CELLS - 1;
            case 2: return MOST_WANT;
            case 3: return MOST_BELIEF;
            case 4: return MOST_THIRST;
            default: return -1;
        }
    }

    private Water waterTried() {
        trial.water.become(valley.water);
        return trial.water;
    }

    private boolean isEnough(int v, int n) {
        trial.become(valley);
        trial.water.openAll(v);
        trial.water.run(n);
        return trial.lacking() == 0;
    }

    /** The cell (what 1) or kind (what 0) with which a watcher has most belief behind n hours. */
    private int mostBelieving(int watcher, int what, int n) {
        int best = 0;
        int most = -1;
        for (int v = 0; v <= mostOf(what); v++) {
            trial.become(valley);
            trial.watchers[watcher].set(what, v);
            trial.pass(n);
            int belief = trial.watchers[watcher].belief;
            if (belief > most) {
                most = belief;
                best = v;
            }
        }
        return best;
    }

    private void stir(int n) {
        for (int cell = 0; cell < CELLS; cell++) {
            stirred[cell] = 0;
        }
        Water water = waterTried();
        for (int hours = 1; hours <= n; hours++) {
            water.run(1);
            for (int cell = 0; cell < CELLS; cell++) {
                stirred[cell] += Math.abs(water.levels[cell] - water.before[cell]);
            }
        }
    }

    private int sheetTrouble(int s) {
        if (outside(s, SHEETS - 1)) {
            return BEYOND;
        }
        return sheets[s].isMissing() ? MISSING : NO_FINDING;
    }

    private int fittingTrouble(int s, int hour, int cell) {
        int trouble = sheetTrouble(s);
        if (trouble != NO_FINDING) {
            return trouble;
        }
        return outside(hour, HOURS - 1) || outside(cell, CELLS - 1) ? BEYOND : NO_FINDING;
    }

    private boolean couldBeOpened(int v, Sheet told, int hour, int cell) {
        Water water = waterTried();
        water.openings[hour] = v;
        for (int i = 0; i < told.size; i++) {
            if (!told.allows(i, water.levels[cell])) {
                return false;
            }
            water.run(1);
        }
        return true;
    }

    private boolean couldBeOfKind(int kind, Sheet told, int watcher) {
        trial.become(valley);
        trial.watchers[watcher].kind = kind;
        for (int i = 0; i < told.size; i++) {
            if (!told.allows(i, trial.watchers[watcher].belief)) {
                return false;
            }
            trial.pass(1);
        }
        return true;
    }

    /** The greatest power of two that divides both this and the hours of a day (which are 8). */
    private static int commonDivisor(int open) {
        int common = 1;
        for (int power = 2; power <= HOURS; power = power * 2) {
            if (open % power == 0) {
                common = power;
            }
        }
        return common;
    }

    private static long power(int base, int n) {
        long product = 1;
        for (int i = 0; i < n; i++) {
            product *= base;
        }
        return product;
    }

    /** All that an image keeps: the water, the watchers, the spots, and z of the draws. */
    private static final class Valley {
        final Water water = new Water();
        final Watcher[] watchers = new Watcher[WATCHERS];
        final int[] spots = new int[SPOTS];
        int settled = 0;
        int z = 1;

        Valley() {
            for (int i = 0; i < WATCHERS; i++) {
                watchers[i] = new Watcher();
            }
            for (int i = 0; i < SPOTS; i++) {
                spots[i] = NOTHING;
            }
        }

        void become(Valley other) {
            water.become(other.water);
            for (int i = 0; i < other.settled; i++) {
                watchers[i].become(other.watchers[i]);
            }
            System.arraycopy(other.spots, 0, spots, 0, SPOTS);
            settled = other.settled;
            z = other.z;
        }

        boolean isFull() {
            return settled >= WATCHERS;
        }

        /** Asked only if it isn't full. */
        int settle(int kind, int cell) {
            int number = settled;
            watchers[number].begin(kind, cell);
            settled++;
            return number;
        }

        void pass(int n) {
            for (int i = 0; i < n; i++) {
                water.run(1);
                liveAll();
            }
        }

        void passShut() {
            water.flow(0);
            liveAll();
        }

        private void liveAll() {
            for (int i = 0; i < settled; i++) {
                Watcher one = watchers[i];
                one.live(water.before[one.cell], water.levels[one.cell]);
            }
        }

        /** Whether in n hours nobody comes to know; who knows never forgets, so each hour can tell. */
        boolean staysHidden(int n, int known) {
            for (int i = 0; i < n; i++) {
                pass(1);
                if (knowing() != known) {
                    return false;
                }
            }
            return true;
        }

        int knowing() {
            int set = 0;
            for (int i = 0; i < settled; i++) {
                if (watchers[i].knows()) {
                    set |= 1 << i;
                }
            }
            return set;
        }

        int lacking() {
            int set = 0;
            for (int i = 0; i < settled; i++) {
                if (watchers[i].lacks(water.levels[watchers[i].cell])) {
                    set |= 1 << i;
                }
            }
            return set;
        }

        int beliefsTogether() {
            int sum = 0;
            for (int i = 0; i < settled; i++) {
                sum += watchers[i].belief;
            }
            return sum;
        }

        int spotsHolding() {
            int holding = 0;
            for (int i = 0; i < SPOTS; i++) {
                if (spots[i] != NOTHING) {
                    holding++;
                }
            }
            return holding;
        }

        int draw() {
            z = z * 1103515245 + 12345;
            return z >>> 8;
        }
    }

    /** The cells, the plan, the sea and the hour: what goes on whether anybody watches or not. */
    private static final class Water {
        final int[] levels = new int[CELLS];
        /** What the levels were ahead of the latest hour. */
        final int[] before = new int[CELLS];
        final int[] openings = new int[HOURS];
        int sea = 0;
        int hour = 0;

        Water() {
            for (int i = 0; i < HOURS; i++) {
                openings[i] = 10;
            }
        }

        void become(Water other) {
            System.arraycopy(other.levels, 0, levels, 0, CELLS);
            System.arraycopy(other.openings, 0, openings, 0, HOURS);
            sea = other.sea;
            hour = other.hour;
        }

        void openAll(int v) {
            for (int i = 0; i < HOURS; i++) {
                openings[i] = v;
            }
        }

        void run(int n) {
            for (int i = 0; i < n; i++) {
                flow(openings[hour % HOURS]);
            }
        }

        void flow(int inflow) {
            System.arraycopy(levels, 0, before, 0, CELLS);
            sea = Math.min(MOST_SEA, sea + before[CELLS - 1] / 2);
            for (int cell = 0; cell < CELLS; cell++) {
                int come = cell == 0 ? inflow : before[cell - 1] / 2;
                levels[cell] = Math.min(MOST_LEVEL, before[cell] - before[cell] / 2 + come);
            }
            hour = Math.min(MOST_HOUR, hour + 1);
        }

        int levelsTogether() {
            return together(levels);
        }

        int openingsTogether() {
            return together(openings);
        }

        int hoursOpen() {
            int open = 0;
            for (int i = 0; i < HOURS; i++) {
                if (openings[i] != 0) {
                    open++;
                }
            }
            return open;
        }
    }

    private static final class Watcher {
        private static final int BEARS = 5;
        private static final int POET_BEARS = BEARS - 2;
        private static final int PROFESSOR_BEARS = POET_BEARS - 1;
        private static final int FISH_BEARS = 20;
        private static final int WARY_BELIEF = 20;

        private static final int DOUBTS = 10;
        private static final int MILL_DOUBTS = DOUBTS / 2;
        private static final int BRIDGE_DOUBTS = MILL_DOUBTS - 4;
        private static final int POET_DOUBTS = 2 * DOUBTS;
        private static final int PROFESSOR_DOUBTS = POET_DOUBTS + 5;
        private static final int DOUBTER_DOUBTS = 2 * PROFESSOR_DOUBTS;

        private static final int TRUSTS = 1;
        private static final int MILL_TRUSTS = TRUSTS + 1;
        private static final int FISH_TRUSTS = 3;

        int kind;
        int cell;
        int want;
        int belief;
        int thirst;

        void begin(int itsKind, int itsCell) {
            kind = itsKind;
            cell = itsCell;
            want = 5;
            belief = 50;
            thirst = 0;
        }

        void become(Watcher other) {
            kind = other.kind;
            cell = other.cell;
            want = other.want;
            belief = other.belief;
            thirst = other.thirst;
        }

        int set(int what, int v) {
            int was;
            switch (what) {
                case 0: was = kind; kind = v; return was;
                case 1: was = cell; cell = v; return was;
                case 2: was = want; want = v; return was;
                case 3: was = belief; belief = v; return was;
                default: was = thirst; thirst = v; return was;
            }
        }

        boolean knows() {
            return belief == 0;
        }

        boolean lacks(int level) {
            return level < want;
        }

        /** An hour, by what its cell's level was ahead of it and is now. */
        void live(int levelBefore, int levelNow) {
            if (!knows()) {
                if (Math.abs(levelNow - levelBefore) > bears()) {
                    belief = Math.max(0, belief - doubts());
                } else if (!lacks(levelNow)) {
                    belief = Math.min(MOST_BELIEF, belief + trusts());
                }
            }
            if (lacks(levelNow)) {
                thirst = Math.min(MOST_THIRST, thirst + 1);
            }
        }

        int bears() {
            switch (kind) {
                case MILL: return millBears();
                case BRIDGE: return 2 * millBears();
                case POET: return POET_BEARS;
                case PROFESSOR: return PROFESSOR_BEARS;
                case DOUBTER: return belief < WARY_BELIEF ? PROFESSOR_BEARS - 1 : PROFESSOR_BEARS;
                case FISH: return FISH_BEARS;
                default: return BEARS;
            }
        }

        private int millBears() {
            return BEARS + want / 10;
        }

        int doubts() {
            switch (kind) {
                case MILL: return MILL_DOUBTS;
                case BRIDGE: return BRIDGE_DOUBTS;
                case POET: return POET_DOUBTS;
                case PROFESSOR: return PROFESSOR_DOUBTS;
                case DOUBTER: return DOUBTER_DOUBTS;
                case FISH: return 0;
                default: return DOUBTS;
            }
        }

        int trusts() {
            switch (kind) {
                case MILL: return MILL_TRUSTS;
                case BRIDGE: return MILL_TRUSTS;
                case PROFESSOR: return 0;
                case DOUBTER: return 0;
                case FISH: return FISH_TRUSTS;
                default: return TRUSTS;
            }
        }

        /** Whether it is of a kind, or of one under it. */
        boolean isUnder(int upper) {
            int at = kind;
            for (int steps = 0; steps < KINDS && at != upper && at != WATCHER; steps++) {
                at = kindAbove(at);
            }
            return at == upper;
        }

        private static int kindAbove(int lower) {
            switch (lower) {
                case PROFESSOR: return POET;
                case DOUBTER: return PROFESSOR;
                case BRIDGE: return MILL;
                default: return WATCHER;
            }
        }
    }

    private static final class Sheet {
        final int[] numbers = new int[SHEET_ROOM];
        /** 0: it is missing. */
        int bits = 0;
        int size = 0;

        boolean isMissing() {
            return bits == 0;
        }

        void lay(int itsBits, int n) {
            bits = itsBits;
            size = itsBits == 0 ? 0 : n;
            for (int i = 0; i < SHEET_ROOM; i++) {
                numbers[i] = 0;
            }
        }

        void put(int i, int v) {
            switch (bits) {
                case 8: numbers[i] = (byte) v; break;
                case 16: numbers[i] = (short) v; break;
                default: numbers[i] = v; break;
            }
        }

        /** Whether it has n numbers from one on; no sum, which could wrap around. */
        boolean has(int from, int n) {
            return from >= 0 && n >= 0 && n <= size && from <= size - n;
        }

        boolean allows(int i, int v) {
            return numbers[i] == ANY || numbers[i] == v;
        }
    }

    /** The tape, and what reads it as a text. */
    private static final class Reader {
        private static final int END = 0;
        private static final int WORD = 1;
        private static final int NUMBER = 2;
        private static final int SIGN = 3;
        private static final int UNKNOWN = 4;
        private static final int NO_FAULT = -1;

        final int[] tape = new int[TAPE_ROOM];
        int length = 0;
        int fault = NO_FAULT;

        private int token = END;
        private int start = 0;
        private int end = 0;

        /** Asked only if there is room. */
        void put(int b) {
            tape[length] = b;
            length++;
        }

        boolean hasFault() {
            return fault != NO_FAULT;
        }

        /** Makes what the text tells so in a valley, up to a fault if there is one: how many items. */
        int read(Valley valley) {
            fault = NO_FAULT;
            end = 0;
            advance();
            for (int items = 1; items <= TAPE_ROOM; items++) {
                readItem(valley);
                if (hasFault() || token == END) {
                    return items;
                }
                if (token != SIGN) {
                    faultHere();
                    return items;
                }
                advance();
            }
            return TAPE_ROOM;
        }

        private void readItem(Valley valley) {
            int kind = kindNamed();
            if (kind != NOTHING) {
                readWatcher(kind, valley);
            } else if (takes("level")) {
                readInto(valley.water.levels, MOST_LEVEL);
            } else if (takes("plan")) {
                readInto(valley.water.openings, MOST_OPENING);
            } else if (takes("steady")) {
                readSteady(valley.water);
            } else {
                faultHere();
            }
        }

        private void readWatcher(int kind, Valley valley) {
            if (valley.isFull()) {
                faultHere();
                return;
            }
            advance();
            Watcher one = valley.watchers[valley.settle(kind, 0)];
            if (takes("at")) {
                one.cell = takeNumber(CELLS - 1);
            }
            if (!hasFault() && takes("wants")) {
                one.want = takeNumber(MOST_WANT);
            }
            if (!hasFault() && takes("believes")) {
                one.belief = takeNumber(MOST_BELIEF);
            }
        }

        /** Two numbers: a place in a row, and what comes there. */
        private void readInto(int[] row, int most) {
            int place = takeNumber(row.length - 1);
            if (hasFault()) {
                return;
            }
            int v = takeNumber(most);
            if (!hasFault()) {
                row[place] = v;
            }
        }

        private void readSteady(Water water) {
            int v = takeNumber(MOST_OPENING);
            if (!hasFault()) {
                water.openAll(v);
            }
        }

        private int kindNamed() {
            for (int kind = 0; kind < KINDS; kind++) {
                if (isWord(nameOf(kind))) {
                    return kind;
                }
            }
            return NOTHING;
        }

        private static String nameOf(int kind) {
            switch (kind) {
                case MILL: return "mill";
                case POET: return "poet";
                case PROFESSOR: return "professor";
                case DOUBTER: return "doubter";
                case FISH: return "fish";
                case BRIDGE: return "bridge";
                default: return "watcher";
            }
        }

        private boolean isWord(String word) {
            if (token != WORD || end - start != word.length()) {
                return false;
            }
            for (int i = 0; i < word.length(); i++) {
                if (tape[start + i] != word.charAt(i)) {
                    return false;
                }
            }
            return true;
        }

        private boolean takes(String word) {
            boolean there = isWord(word);
            if (there) {
                advance();
            }
            return there;
        }

        /** The number that stands here; with a fault, if there is none or it is above the most, 0. */
        private int takeNumber(int most) {
            int v = token == NUMBER ? numberHere() : MOST_NUMBER + 1;
            if (v > most) {
                faultHere();
                return 0;
            }
            advance();
            return v;
        }

        private int numberHere() {
            int v = 0;
            for (int i = start; i < end; i++) {
                // However long it is, it stays just above the greatest.
                v = Math.min(MOST_NUMBER + 1, 10 * v + tape[i] - '0');
            }
            return v;
        }

        private void faultHere() {
            fault = start;
        }

        private void advance() {
            start = end;
            while (start < length && tape[start] == ' ') {
                start++;
            }
            end = start;
            if (start >= length) {
                token = END;
                return;
            }
            token = tokenOf(tape[start]);
            end++;
            // Words and numbers are as long as can be; a sign is one byte.
            while (end < length && (token == WORD || token == NUMBER) && tokenOf(tape[end]) == token) {
                end++;
            }
        }

        private static int tokenOf(int b) {
            if (b >= 'a' && b <= 'z') {
                return WORD;
            }
            if (b >= '0' && b <= '9') {
                return NUMBER;
            }
            return b == ';' ? SIGN : UNKNOWN;
        }
    }
}
