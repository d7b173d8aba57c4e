/**
 * A herd of clouds over a sky of 32 cells with two winds, one above the other; DOC.md says what
 * each call answers. All rows are made with the object and used again: no call makes anything.
 */
public final class CloudHerd {
    public static final int NONE = -1000000, BAD = -1000001, STATE = -1000002, FULL = -1000003;

    private static final int FINDINGS = -1000010, FAULTS = -1000100;
    private static final int NULL = 1, PLACE = 2, KIND = 3, SIZE = 4, STORE = 5;

    private static final int ROWS = 8, ITEMS = 40, BYTES = 120, IMAGES = 2;
    private static final int WIDTH = 8, LENGTH = 4, CELLS = WIDTH * LENGTH, TURNS = 6;
    private static final int PARISHES = 8, CLOUDS = 5, MOST_WATER = 40, LAST_HOUR = 999;
    private static final int FARTHEST = 60, LONGEST_STEP = 24, SHADE_HOURS = 24, SOON_HOURS = 24;
    private static final int HEIGHT_HOURS = 8, TOLD_HOURS = 12, PLACES = 5, MOST_TAKEN = 20;

    private static final int EAST = 1, WEST = 2, SOUTH = 3, NORTH = 4;
    private static final int FIELD = 1, HAY = 2, HILL = 3;
    private static final int CLOUD = 0, WHITE = 1, SHEEP = 2, BLACK = 3, FOG = 4, STRAY = 5;

    /** For each KIND the one above it; CLOUD stands above itself. */
    private static final int[] ABOVE = {CLOUD, CLOUD, WHITE, WHITE, CLOUD, FOG};

    private final Row[] rows = new Row[ROWS];
    private final Tape tape = new Tape();
    private final Herd now = new Herd();
    /** Read into and foretold with, so that the HERD itself stays as it is. */
    private final Herd trial = new Herd();
    /** The same for a CLOUD that is ALONE. */
    private final Cloud loner = new Cloud();
    private final Herd[] images = new Herd[IMAGES];
    private final Acts acts = new Acts();
    private final Trace steps = new Trace();
    private int latestFinding = 0;
    private int latestFault = 0;

    public CloudHerd() {
        for (int k = 0; k < ROWS; k++) {
            rows[k] = new Row();
        }
        for (int k = 0; k < IMAGES; k++) {
            images[k] = new Herd();
        }
    }

    // ---- rows

    public int row(int row, int lane, int n) {
        if (!isRow(row) || !within(lane, 0, 2) || n > ITEMS) {
            return BAD;
        }
        if (n < 0) {
            return found(SIZE);
        }
        rows[row].begin(lane, n);
        return clean(n);
    }

    public int set(int row, int i, int v) {
        if (!isRow(row)) {
            return BAD;
        }
        int lack = rows[row].lack(i, 1);
        return lack != 0 ? found(lack) : clean(rows[row].put(i, v));
    }

    public int copy(int a, int i, int b, int j, int n) {
        if (!isRow(a) || !isRow(b)) {
            return BAD;
        }
        Row from = rows[a];
        Row to = rows[b];
        if (!from.there || !to.there) {
            return found(NULL);
        }
        if (from.lane != to.lane) {
            return found(STORE);
        }
        if (!from.has(i, n) || !to.has(j, n)) {
            return found(PLACE);
        }
        System.arraycopy(from.items, i, to.items, j, n);
        return clean(n);
    }

    public int drop(int row) {
        if (!isRow(row)) {
            return BAD;
        }
        if (!rows[row].there) {
            return found(NULL);
        }
        rows[row].there = false;
        return clean(rows[row].size);
    }

    // ---- what is told

    public int feed(int letter) {
        if (!within(letter, 0, 255)) {
            return BAD;
        }
        return tape.add(letter) ? tape.size : FULL;
    }

    public int herd() {
        tape.read(trial);
        tape.size = 0;
        if (tape.fault != 0) {
            latestFault = tape.fault;
            return FAULTS - tape.place;
        }
        now.become(trial);
        acts.forget();
        return now.cloudCount;
    }

    public int fault() {
        return latestFault;
    }

    public int undo() {
        if (acts.size == 0) {
            return STATE;
        }
        acts.takeBack(now);
        return acts.size;
    }

    // ---- what is done

    public int hours(int n) {
        if (!now.stands) {
            return STATE;
        }
        if (!within(n, 1, LONGEST_STEP)) {
            return BAD;
        }
        if (now.hour + n > LAST_HOUR) {
            return FULL;
        }
        for (int k = 0; k < n; k++) {
            acts.keep(now);
            now.passHour();
        }
        return now.earned;
    }

    public int lift(int cloud, int up) {
        if (!isCloud(cloud) || !within(up, 0, 1)) {
            return BAD;
        }
        Cloud one = now.clouds[cloud];
        if (one.gone || !one.canRise() || one.height == up) {
            return STATE;
        }
        acts.keep(now);
        one.moveTo(up);
        return one.water;
    }

    public int rains(int cloud, int on) {
        if (!isCloud(cloud) || !within(on, 0, 1)) {
            return BAD;
        }
        Cloud one = now.clouds[cloud];
        if (one.gone || one.sort != WHITE && one.sort != SHEEP) {
            return STATE;
        }
        int before = bit(one.told);
        acts.keep(now);
        one.told = on == 1;
        return before;
    }

    public int cloud(int cloud, int what) {
        if (!isCloud(cloud) || !within(what, 0, 4)) {
            return BAD;
        }
        return now.clouds[cloud].part(what);
    }

    public int cell(int cell, int what) {
        if (!now.stands) {
            return STATE;
        }
        if (!isCell(cell) || !within(what, 0, 1)) {
            return BAD;
        }
        return what == 0 ? now.parishes[cell] : now.cloudsOver(cell);
    }

    public int wind(int height, int place) {
        if (!now.stands) {
            return STATE;
        }
        if (!within(height, 0, 1) || !within(place, 0, TURNS - 1)) {
            return BAD;
        }
        return now.blowing(height, place);
    }

    // ---- foretold

    public int ahead(int cloud, int n, int what) {
        if (!isCloud(cloud) || !within(n, 0, FARTHEST) || !within(what, 0, 3)) {
            return BAD;
        }
        tryHours(n);
        return trial.clouds[cloud].part(what);
    }

    public int earned(int n) {
        if (!now.stands) {
            return STATE;
        }
        if (!within(n, 0, FARTHEST)) {
            return BAD;
        }
        tryHours(n);
        return trial.earned;
    }

    public int knot(int n, int what) {
        if (!now.stands) {
            return STATE;
        }
        if (!within(n, 1, FARTHEST) || !within(what, 0, 1)) {
            return BAD;
        }
        trial.become(now);
        for (int k = 0; k < n; k++) {
            trial.passHour();
            if (trial.runBits != 0) {
                return what == 0 ? k : trial.runBits;
            }
        }
        return NONE;
    }

    public int wetHay(int n, int what) {
        if (!now.stands) {
            return STATE;
        }
        if (!within(n, 1, FARTHEST) || !within(what, 0, 1)) {
            return BAD;
        }
        int first = NONE;
        int water = 0;
        trial.become(now);
        for (int k = 0; k < n; k++) {
            trial.passHour();
            if (first == NONE && trial.hayWater > 0) {
                first = k;
            }
            water += trial.hayWater;
        }
        return what == 0 ? first : water * now.fine;
    }

    public int soon(int cloud, int cell) {
        if (!isCloud(cloud) || !isCell(cell)) {
            return BAD;
        }
        Cloud one = now.clouds[cloud];
        if (one.gone) {
            return STATE;
        }
        int over = 1 << one.cell;
        for (int k = 0; k <= SOON_HOURS; k++) {
            if ((over >>> cell & 1) != 0) {
                return k;
            }
            over = spread(one, over, now.hour + k);
        }
        return NONE;
    }

    public int heights(int cloud, int n, int what) {
        if (!isCloud(cloud) || !within(n, 1, HEIGHT_HOURS) || !within(what, 0, 1)) {
            return BAD;
        }
        if (now.clouds[cloud].gone) {
            return STATE;
        }
        int ways = now.clouds[cloud].canRise() ? 1 << n : 1;
        int best = 0;
        int most = earnedAt(cloud, n, 0);
        for (int way = 1; way < ways; way++) {
            int gain = earnedAt(cloud, n, way);
            if (gain > most) {
                most = gain;
                best = way;
            }
        }
        return what == 0 ? best : most;
    }

    public int shade(int cell, int n) {
        if (!now.stands) {
            return STATE;
        }
        if (!isCell(cell) || !within(n, 1, SHADE_HOURS)) {
            return BAD;
        }
        int bits = 0;
        trial.become(now);
        for (int k = 0; k < n; k++) {
            trial.passHour();
            if (trial.cloudsOver(cell) != 0) {
                bits |= 1 << k;
            }
        }
        return bits;
    }

    public int dew(int row, int i, int n) {
        if (!now.stands) {
            return STATE;
        }
        if (!isRow(row) || !within(n, 1, TOLD_HOURS)) {
            return BAD;
        }
        int lack = rows[row].lack(i, n);
        if (lack != 0) {
            return found(lack);
        }
        int bits = 0;
        for (int k = 0; k < now.cloudCount; k++) {
            if (!now.clouds[k].gone && leavesDew(k, rows[row], i, n)) {
                bits |= 1 << k;
            }
        }
        return clean(bits);
    }

    public int lost(int cloud, int height, int row, int i, int n, int what) {
        if (!isCloud(cloud) || !within(height, 0, 1) || !isRow(row)
                || !within(n, 1, TOLD_HOURS) || !within(what, 0, 1)) {
            return BAD;
        }
        int lack = rows[row].lack(i, n);
        if (lack != 0) {
            return found(lack);
        }
        int ways = 0;
        int least = NONE;
        for (int k = CELLS - 1; k >= 0; k--) {
            if (tookWay(cloud, k, height, rows[row], i, n)) {
                ways++;
                least = k;
            }
        }
        return clean(what == 0 ? ways : least);
    }

    public int kite(int row, int i, int n, int what) {
        if (!now.stands) {
            return STATE;
        }
        if (!isRow(row) || !within(n, 1, TOLD_HOURS) || !within(what, 0, 1)) {
            return BAD;
        }
        int lack = rows[row].lack(i, n);
        if (lack != 0) {
            return found(lack);
        }
        int ways = 0;
        int first = NONE;
        for (int way = 2 * TURNS - 1; way >= 0; way--) {
            if (flewSo(way / TURNS, way % TURNS, rows[row], i, n)) {
                ways++;
                first = way;
            }
        }
        return clean(what == 0 ? ways : first);
    }

    public int tuesday(int cloud, int n, int cell, int what) {
        if (!isCloud(cloud) || !within(n, 0, FARTHEST) || !isCell(cell) || !within(what, 0, 1)) {
            return BAD;
        }
        if (now.clouds[cloud].gone) {
            return STATE;
        }
        int cases = 0;
        for (int later = 0; later < TURNS; later++) {
            if (cellBehind(now.clouds[cloud], later, n) == cell) {
                cases++;
            }
        }
        return (int) lowest(cases, TURNS, what);
    }

    public int guards(int row, int i) {
        if (!isRow(row)) {
            return BAD;
        }
        int refusal = lineRefusal(rows[row], i);
        return refusal != 0 ? refusal : bestPlaces(rows[row], i);
    }

    public long guardsValue(int row, int i, int what) {
        if (!isRow(row) || !within(what, 0, 1)) {
            return BAD;
        }
        int refusal = lineRefusal(rows[row], i);
        if (refusal != 0) {
            return refusal;
        }
        int best = bestPlaces(rows[row], i);
        return lowest(valueAbove(rows[row], i, best), valueBelow(rows[row], i, best), what);
    }

    public int dues(int n) {
        if (!now.stands) {
            return STATE;
        }
        if (!within(n, 0, FARTHEST)) {
            return BAD;
        }
        tryHours(n);
        return trial.milk - now.milk;
    }

    public int image(int k) {
        if (!within(k, 0, IMAGES - 1)) {
            return BAD;
        }
        if (!now.stands) {
            return STATE;
        }
        images[k].become(now);
        return 1;
    }

    public int restore(int k) {
        if (!within(k, 0, IMAGES - 1)) {
            return BAD;
        }
        if (!images[k].stands) {
            return STATE;
        }
        now.become(images[k]);
        acts.forget();
        return 1;
    }

    // ---- asked

    public int kind(int one) {
        return isCloud(one) ? now.clouds[one].sort : BAD;
    }

    public int as(int one, int kind) {
        if (!isCloud(one) || !within(kind, CLOUD, STRAY)) {
            return BAD;
        }
        int own = now.clouds[one].sort;
        boolean such = kind == own || kind == ABOVE[own] || kind == CLOUD;
        return such ? clean(one) : found(KIND);
    }

    public int ask(int one, int what) {
        if (!isCloud(one) || !within(what, 0, 1)) {
            return BAD;
        }
        return steps.answer(now.clouds[one], one, what);
    }

    public int trace(int i) {
        return within(i, 0, steps.size - 1) ? steps.numbers[i] : NONE;
    }

    public int count(int what) {
        switch (what) {
            case 0: return rowsThere();
            case 1: return now.cloudCount;
            case 2: return now.parishCount;
            case 3: return now.hour;
            case 4: return now.earned;
            case 5: return now.milk;
            case 6: return now.cloudsLeft();
            case 7: return acts.size;
            case 8: return tape.size;
            default: return BAD;
        }
    }

    public int status() {
        return latestFinding;
    }

    // ---- what the calls share

    private static boolean within(int v, int least, int most) {
        return v >= least && v <= most;
    }

    private static boolean isRow(int row) {
        return within(row, 0, ROWS - 1);
    }

    private static boolean isCell(int cell) {
        return within(cell, 0, CELLS - 1);
    }

    private boolean isCloud(int cloud) {
        return within(cloud, 0, now.cloudCount - 1);
    }

    private static int bit(boolean yes) {
        return yes ? 1 : 0;
    }

    private int found(int finding) {
        latestFinding = finding;
        return FINDINGS - finding;
    }

    private int clean(int answer) {
        latestFinding = 0;
        return answer;
    }

    private int rowsThere() {
        int n = 0;
        for (int k = 0; k < ROWS; k++) {
            n += bit(rows[k].there);
        }
        return n;
    }

    private void tryHours(int n) {
        trial.become(now);
        for (int k = 0; k < n; k++) {
            trial.passHour();
        }
    }

    /** The CELLS (bits) that one can be over an HOUR later, if it is over some of these. */
    private int spread(Cloud one, int over, int hour) {
        int next = 0;
        for (int k = 0; k < CELLS; k++) {
            if ((over >>> k & 1) != 0) {
                next |= 1 << one.driftedFrom(k, now.blowing(0, hour));
                if (one.canRise()) {
                    next |= 1 << one.driftedFrom(k, now.blowing(1, hour));
                }
            }
        }
        return next;
    }

    private int earnedAt(int cloud, int n, int way) {
        int gain = 0;
        loner.become(now.clouds[cloud]);
        for (int k = 0; k < n; k++) {
            loner.moveTo(way >>> k & 1);
            gain += now.passAlone(loner, now.hour + k);
        }
        return gain;
    }

    private boolean leavesDew(int cloud, Row row, int i, int n) {
        loner.become(now.clouds[cloud]);
        for (int k = 0; k < n; k++) {
            now.passAlone(loner, now.hour + k);
            if (row.items[i + k] != (loner.fallen > 0 ? loner.cell : -1)) {
                return false;
            }
        }
        return true;
    }

    private boolean tookWay(int cloud, int start, int height, Row row, int i, int n) {
        int cell = start;
        for (int k = 0; k < n; k++) {
            cell = now.clouds[cloud].driftedFrom(cell, now.blowing(height, now.hour + k));
            if (row.items[i + k] != cell) {
                return false;
            }
        }
        return true;
    }

    private boolean flewSo(int height, int place, Row row, int i, int n) {
        for (int k = 0; k < n; k++) {
            if (row.items[i + k] != now.blowing(height, place + k)) {
                return false;
            }
        }
        return true;
    }

    private int cellBehind(Cloud one, int later, int n) {
        int cell = one.cell;
        for (int k = 0; k < n; k++) {
            cell = one.driftedFrom(cell, now.blowing(one.height, now.hour + later + k));
        }
        return cell;
    }

    private int lineRefusal(Row row, int i) {
        int lack = row.lack(i, PLACES);
        if (lack != 0) {
            return found(lack);
        }
        for (int k = 0; k < PLACES; k++) {
            if (!within(row.items[i + k], 1, MOST_TAKEN)) {
                return BAD;
            }
        }
        return clean(0);
    }

    private static int bestPlaces(Row row, int i) {
        int best = 1;
        for (int places = 2; places < 1 << PLACES; places++) {
            long mine = valueAbove(row, i, places) * valueBelow(row, i, best);
            long its = valueAbove(row, i, best) * valueBelow(row, i, places);
            if (mine > its) {
                best = places;
            }
        }
        return best;
    }

    /*
     * It is all one where the guard sits when odds times what is taken is the same everywhere.
     * Of m places VALUE is then m less 1, by the sum of 1 by each: above and below by their product.
     */
    private static long valueAbove(Row row, int i, int places) {
        long product = Integer.bitCount(places) - 1;
        for (int k = 0; k < PLACES; k++) {
            if ((places >>> k & 1) != 0) {
                product *= row.items[i + k];
            }
        }
        return product;
    }

    private static long valueBelow(Row row, int i, int places) {
        long product = 1;
        long sum = 0;
        for (int k = 0; k < PLACES; k++) {
            if ((places >>> k & 1) != 0) {
                sum = sum * row.items[i + k] + product;
                product *= row.items[i + k];
            }
        }
        return sum;
    }

    private static long lowest(long above, long below, int what) {
        long a = above;
        long b = below;
        for (int k = 0; k < 100 && b != 0; k++) {
            long rest = a % b;
            a = b;
            b = rest;
        }
        long part = what == 0 ? above : below;
        return a == 0 ? part : part / a;
    }

    /** ITEMS of one LANE; what is behind size is left from before. */
    private static final class Row {
        boolean there = false;
        int lane = 0;
        int size = 0;
        final int[] items = new int[ITEMS];

        void begin(int newLane, int n) {
            there = true;
            lane = newLane;
            size = n;
            for (int k = 0; k < n; k++) {
                items[k] = 0;
            }
        }

        boolean has(int i, int n) {
            return i >= 0 && n >= 0 && n <= size && i <= size - n;
        }

        int lack(int i, int n) {
            if (!there) {
                return NULL;
            }
            return has(i, n) ? 0 : PLACE;
        }

        int put(int i, int v) {
            items[i] = lane == 0 ? (byte) v : lane == 1 ? (short) v : v;
            return items[i];
        }
    }

    private static final class Cloud {
        int sort = CLOUD;
        int cell = 0;
        int height = 0;
        int water = 0;
        boolean gone = false;
        boolean told = false;
        /** What it rained in the latest HOUR. */
        int fallen = 0;

        void begin(int newSort, int newCell, int newWater) {
            sort = newSort;
            cell = newCell;
            height = 0;
            water = newWater;
            gone = false;
            told = true;
            fallen = 0;
        }

        void become(Cloud other) {
            sort = other.sort;
            cell = other.cell;
            height = other.height;
            water = other.water;
            gone = other.gone;
            told = other.told;
            fallen = other.fallen;
        }

        /** All that an ACT can change, in one number. */
        int packed() {
            return cell | height << 5 | bit(gone) << 6 | bit(told) << 7 | water << 8;
        }

        void unpack(int state) {
            cell = state & CELLS - 1;
            height = state >>> 5 & 1;
            gone = (state >>> 6 & 1) != 0;
            told = (state >>> 7 & 1) != 0;
            water = state >>> 8;
        }

        int part(int what) {
            switch (what) {
                case 0: return cell;
                case 1: return height;
                case 2: return water;
                case 3: return bit(gone);
                default: return bit(told);
            }
        }

        boolean canRise() {
            return sort != FOG && sort != STRAY;
        }

        void moveTo(int newHeight) {
            if (newHeight > height) {
                water = Math.max(0, water - 2);
            }
            height = newHeight;
        }

        int driftedFrom(int from, int direction) {
            if (sort == FOG) {
                return from;
            }
            return beside(from, sort == STRAY ? opposite(direction) : direction);
        }

        private static int opposite(int direction) {
            switch (direction) {
                case EAST: return WEST;
                case WEST: return EAST;
                case SOUTH: return NORTH;
                case NORTH: return SOUTH;
                default: return direction;
            }
        }

        private static int beside(int from, int direction) {
            int x = from % WIDTH;
            int y = from / WIDTH;
            switch (direction) {
                case EAST: return x < WIDTH - 1 ? from + 1 : from;
                case WEST: return x > 0 ? from - 1 : from;
                case SOUTH: return y < LENGTH - 1 ? from + WIDTH : from;
                case NORTH: return y > 0 ? from - WIDTH : from;
                default: return from;
            }
        }

        /** Whether that one runs together with this, of a lesser number. */
        boolean meets(Cloud other) {
            return !gone && cell == other.cell && height == other.height;
        }

        void swallow(Cloud other) {
            water = Math.min(MOST_WATER, water + other.water);
            other.water = 0;
            other.gone = true;
        }

        void rainOver(int parish) {
            fallen = Math.min(water, pouring(parish));
            water -= fallen;
        }

        private int pouring(int parish) {
            switch (sort) {
                case WHITE: return parish == FIELD && told ? 1 : 0;
                case BLACK: return 2;
                case FOG:
                case STRAY: return height == 0 ? 1 : 0;
                default: return 0;
            }
        }
    }

    /** A HERD with its winds and parishes, and what its latest HOUR did. */
    private static final class Herd {
        boolean stands = false;
        int pay = 0;
        int fine = 0;
        int parishCount = 0;
        int cloudCount = 0;
        int hour = 0;
        int earned = 0;
        int milk = 0;
        final int[] winds = new int[2 * TURNS];
        final int[] parishes = new int[CELLS];
        final Cloud[] clouds = new Cloud[CLOUDS];
        /** Who was GONE in the latest HOUR, and the water that came down on hay in it. */
        int runBits = 0;
        int hayWater = 0;

        Herd() {
            for (int k = 0; k < CLOUDS; k++) {
                clouds[k] = new Cloud();
            }
        }

        /** As a text's reading begins. */
        void begin() {
            stands = true;
            parishCount = 0;
            cloudCount = 0;
            hour = 0;
            earned = 0;
            milk = 0;
            for (int k = 0; k < CELLS; k++) {
                parishes[k] = 0;
            }
        }

        void become(Herd other) {
            stands = other.stands;
            pay = other.pay;
            fine = other.fine;
            parishCount = other.parishCount;
            cloudCount = other.cloudCount;
            hour = other.hour;
            earned = other.earned;
            milk = other.milk;
            System.arraycopy(other.winds, 0, winds, 0, 2 * TURNS);
            System.arraycopy(other.parishes, 0, parishes, 0, CELLS);
            for (int k = 0; k < CLOUDS; k++) {
                clouds[k].become(other.clouds[k]);
            }
        }

        int blowing(int height, int atHour) {
            return winds[height * TURNS + atHour % TURNS];
        }

        int cloudsOver(int cell) {
            int bits = 0;
            for (int k = 0; k < cloudCount; k++) {
                if (!clouds[k].gone && clouds[k].cell == cell) {
                    bits |= 1 << k;
                }
            }
            return bits;
        }

        int cloudsLeft() {
            int n = 0;
            for (int k = 0; k < cloudCount; k++) {
                n += bit(!clouds[k].gone);
            }
            return n;
        }

        void passHour() {
            driftAll();
            runTogether();
            rainAll();
            milkAll();
            hour++;
        }

        /** An HOUR of one that is not of this HERD, but under its winds: what it earns. */
        int passAlone(Cloud one, int atHour) {
            driftOne(one, atHour);
            int gain = rainOne(one);
            milkOne(one);
            return gain;
        }

        private void driftAll() {
            for (int k = 0; k < cloudCount; k++) {
                if (!clouds[k].gone) {
                    driftOne(clouds[k], hour);
                }
            }
        }

        private void driftOne(Cloud one, int atHour) {
            one.cell = one.driftedFrom(one.cell, blowing(one.height, atHour));
        }

        private void runTogether() {
            runBits = 0;
            for (int k = 1; k < cloudCount; k++) {
                for (int m = 0; m < k && !clouds[k].gone; m++) {
                    if (clouds[m].meets(clouds[k])) {
                        clouds[m].swallow(clouds[k]);
                        runBits |= 1 << k;
                    }
                }
            }
        }

        private void rainAll() {
            hayWater = 0;
            for (int k = 0; k < cloudCount; k++) {
                if (!clouds[k].gone) {
                    earned += rainOne(clouds[k]);
                    hayWater += parishes[clouds[k].cell] == HAY ? clouds[k].fallen : 0;
                }
            }
        }

        private int rainOne(Cloud one) {
            int parish = parishes[one.cell];
            one.rainOver(parish);
            if (parish == FIELD) {
                return pay * one.fallen;
            }
            return parish == HAY ? -fine * one.fallen : 0;
        }

        private void milkAll() {
            for (int k = 0; k < cloudCount; k++) {
                milk += milkOne(clouds[k]);
            }
        }

        /** One that is GONE has no WATER, and so gives no MILK. */
        private int milkOne(Cloud one) {
            if (one.height != 0 || one.water == 0 || parishes[one.cell] != HILL) {
                return 0;
            }
            one.water--;
            return 1;
        }
    }

    /** The HERD as it was ahead of each of the latest ACTS, in a ring. */
    private static final class Acts {
        static final int MOST = 24, WIDE = 3 + CLOUDS;
        final int[] kept = new int[MOST * WIDE];
        int next = 0;
        int size = 0;

        void keep(Herd herd) {
            int at = next * WIDE;
            kept[at] = herd.hour;
            kept[at + 1] = herd.earned;
            kept[at + 2] = herd.milk;
            for (int k = 0; k < CLOUDS; k++) {
                kept[at + 3 + k] = herd.clouds[k].packed();
            }
            next = (next + 1) % MOST;
            size = Math.min(MOST, size + 1);
        }

        void takeBack(Herd herd) {
            next = (next + MOST - 1) % MOST;
            size--;
            int at = next * WIDE;
            herd.hour = kept[at];
            herd.earned = kept[at + 1];
            herd.milk = kept[at + 2];
            for (int k = 0; k < CLOUDS; k++) {
                herd.clouds[k].unpack(kept[at + 3 + k]);
            }
        }

        void forget() {
            size = 0;
        }
    }

    /** The tape, and a reader that stops at the first FAULT: then nothing more is taken. */
    private static final class Tape {
        static final int NUMBER = -1, NO_TOKEN = -2, END = -3;
        final int[] bytes = new int[BYTES];
        int size = 0;
        /** The TOKEN that is looked at: its first byte, the byte behind it, what it is. */
        int place = 0;
        int behind = 0;
        int token = END;
        int value = 0;
        int fault = 0;

        boolean add(int letter) {
            if (size >= BYTES) {
                return false;
            }
            bytes[size] = letter;
            size++;
            return true;
        }

        void read(Herd into) {
            fault = 0;
            behind = 0;
            look();
            into.begin();
            readLaw(into);
            readWind(into, 'l', 0);
            readWind(into, 'u', 1);
            readParishes(into);
            readClouds(into);
            if (fault == 0 && token != END) {
                fault = 1;
            }
        }

        private void readLaw(Herd into) {
            takeSign('k');
            into.pay = takeNumber(1, 9, 0);
            takeSign(',');
            into.fine = takeNumber(0, 9, 0);
            takeSign(';');
        }

        private void readWind(Herd into, int letter, int height) {
            takeSign(letter);
            for (int k = 0; k < TURNS; k++) {
                into.winds[height * TURNS + k] = takeDirection();
            }
            takeSign(';');
        }

        private void readParishes(Herd into) {
            int taken = 0;
            for (int k = 0; k <= PARISHES && fault == 0 && parishOf(token) != 0; k++) {
                if (k == PARISHES) {
                    fault = 3;
                    return;
                }
                int parish = parishOf(token);
                look();
                int cell = takeNumber(0, CELLS - 1, taken);
                takeSign(';');
                into.parishes[cell] = parish;
                into.parishCount = k + 1;
                taken |= 1 << cell;
            }
        }

        private void readClouds(Herd into) {
            int taken = 0;
            for (int k = 0; k <= CLOUDS && fault == 0 && sortOf(token) != 0; k++) {
                if (k == CLOUDS) {
                    fault = 3;
                    return;
                }
                int sort = sortOf(token);
                look();
                int cell = takeNumber(0, CELLS - 1, taken);
                takeSign(',');
                int water = takeNumber(0, 20, 0);
                takeSign(';');
                into.clouds[k].begin(sort, cell, water);
                into.cloudCount = k + 1;
                taken |= 1 << cell;
            }
        }

        private void takeSign(int sign) {
            if (fault == 0 && token != sign) {
                fault = 1;
            }
            if (fault == 0) {
                look();
            }
        }

        private int takeDirection() {
            int direction = directionOf(token);
            if (fault == 0 && direction < 0) {
                fault = 1;
            }
            if (fault != 0) {
                return 0;
            }
            look();
            return direction;
        }

        /** A NUMBER, and none of those that are taken (bits; told for CELLS only). */
        private int takeNumber(int least, int most, int taken) {
            if (fault == 0 && token != NUMBER) {
                fault = 1;
            }
            if (fault == 0 && (!within(value, least, most) || (taken >>> value & 1) != 0)) {
                fault = 2;
            }
            if (fault != 0) {
                return least;
            }
            int taking = value;
            look();
            return taking;
        }

        /** Looks at the TOKEN behind the one that was looked at. */
        private void look() {
            place = behind;
            if (place >= size) {
                token = END;
            } else if (isFigure(place)) {
                lookAtFigures();
            } else {
                behind = place + 1;
                token = isSign(bytes[place]) ? bytes[place] : NO_TOKEN;
            }
        }

        private void lookAtFigures() {
            value = 0;
            behind = place;
            for (int k = 0; k < 3 && isFigure(behind); k++) {
                value = value * 10 + bytes[behind] - '0';
                behind++;
            }
            token = behind - place <= 2 ? NUMBER : NO_TOKEN;
        }

        private boolean isFigure(int at) {
            return at < size && bytes[at] >= '0' && bytes[at] <= '9';
        }

        private static boolean isSign(int letter) {
            return within(letter, 'a', 'z') || letter == ',' || letter == ';';
        }

        private static int directionOf(int letter) {
            switch (letter) {
                case 'o': return 0;
                case 'e': return EAST;
                case 'w': return WEST;
                case 's': return SOUTH;
                case 'n': return NORTH;
                default: return -1;
            }
        }

        private static int parishOf(int letter) {
            switch (letter) {
                case 'f': return FIELD;
                case 'h': return HAY;
                case 'm': return HILL;
                default: return 0;
            }
        }

        private static int sortOf(int letter) {
            switch (letter) {
                case 'a': return WHITE;
                case 'p': return SHEEP;
                case 'b': return BLACK;
                case 'g': return FOG;
                case 'y': return STRAY;
                default: return 0;
            }
        }
    }

    /** ASKS, and THE TRACE of the latest one. */
    private static final class Trace {
        static final int MOST = 16, DEEPEST = 8;
        /** For each KIND the BODY with which SIZE, MARK begins. */
        static final int[] SIZE_BODIES = {10, 11, 12, 11, 13, 14};
        static final int[] MARK_BODIES = {20, 21, 24, 22, 23, 23};
        final int[] numbers = new int[MOST];
        int size = 0;

        int answer(Cloud one, int mark, int what) {
            size = 0;
            int begins = what == 0 ? SIZE_BODIES[one.sort] : MARK_BODIES[one.sort];
            return bodyOf(this, begins, one, mark, 1);
        }

        private static int bodyOf(Trace left, int number, Cloud one, int mark, int depth) {
            if (depth > DEEPEST) {
                return 0;
            }
            left.leave(number);
            int next = depth + 1;
            switch (number) {
                case 10: return one.water;
                case 11: return bodyOf(left, 10, one, mark, next)
                        + bodyOf(left, MARK_BODIES[one.sort], one, mark, next);
                case 12: return -bodyOf(left, 11, one, mark, next);
                case 13: return bodyOf(left, 10, one, mark, next) - 100;
                case 14: return 2 * bodyOf(left, 13, one, mark, next);
                case 20: return mark;
                case 21: return bodyOf(left, 20, one, mark, next) + one.cell;
                case 22: return bodyOf(left, 21, one, mark, next) - 1000;
                case 23: return bodyOf(left, 20, one, mark, next)
                        - bodyOf(left, SIZE_BODIES[one.sort], one, mark, next);
                case 24: return 2 * bodyOf(left, 21, one, mark, next);
                default: return 0;
            }
        }

        private void leave(int number) {
            if (size < MOST) {
                numbers[size] = number;
                size++;
            }
        }
    }
}
