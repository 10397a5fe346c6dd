import java.util.Arrays;

/** Boats out on a lake that are called in, fetched by a launch, or wait for thunder; see README.md. */
public final class BoatsCalledIn {
    public static final int NONE = -1, BAD = -2, STATE = -3, FULL = -4;
    public static final long NO = -4611686018427387904L;

    private static final int NOTHING = -11, OUTSIDE = -12, OTHER_SORT = -13, BELOW = -14;

    private static final int MOST_BOATS = 7, MOST_TEXTS = 6, MOST_TAPE = 160, MOST_SHEETS = 4, MOST_CELLS = 40;
    private static final int MOST_N = 240, MOST_MINUTE = 9999, MOST_PRICE = 99, MOST_SEEDS = 20;
    private static final int ROWS = 6, WIDTH = 8, STAGE = 0;

    // What set() changes of a boat, then what a boat has besides.
    private static final int CELL = 0, OUT = 1, PAID = 2, NUMBER = 3, HOW = 4, IN_AT = 5, BOAT_THINGS = 6;
    // What set() changes of the lake, then what the lake has besides.
    private static final int ISLAND = 4, WIND = 5, TOWS = 6, SPEED = 7, WAITING = 8;
    private static final int MINUTE = 9, TAKINGS = 10, RULE = 11, LAKE_THINGS = 12;
    // The bounds of all that set() changes.
    private static final int[] LEAST = {0, 0, 5, 0, 0, 0, 1, 1, 0};
    private static final int[] MOST = {47, 999, 240, 9, 47, 9, 6, 9, 20};

    private static final int ON_THE_LAKE = 0, COMING = 1, IN = 2;

    private static final int PRICE = 0, HEARS = 1, COMES = 2, CLAUSES = 3;

    private static final int FAR_NAME = 0, WIND_NAME = 1, LATE_NAME = 2, HID_NAME = 3, BOAT_NAME = 4;
    private static final int MINUTE_NAME = 5, NAMES = 6;

    private static final String FIRST_TEXT = "price 4 ; hears not hid ; comes 0 - 5 < late ;";

    private final Boat[] fleet = new Boat[MOST_BOATS];
    private int fleetSize;
    private final int[] lake = new int[LAKE_THINGS];
    private final int[] keptLake = new int[LAKE_THINGS];
    private int keptSize = NONE;

    private final Tape tape = new Tape();
    private final Rule[] rules = new Rule[MOST_TEXTS];
    private int ruleCount;
    private final int[] names = new int[NAMES];

    private final Tug tug = new Tug();
    private final int[] inOrder = new int[MOST_BOATS];
    private final Sheet[] sheets = new Sheet[MOST_SHEETS];

    public BoatsCalledIn() {
        lake[ISLAND] = 27;
        lake[TOWS] = 2;
        lake[SPEED] = 1;
        for (int i = 0; i < MOST_SHEETS; i++) {
            sheets[i] = new Sheet();
        }
        for (int i = 0; i < FIRST_TEXT.length(); i++) {
            tape.add(FIRST_TEXT.charAt(i));
        }
        tape.read();
        rules[0] = tape.ruleRead();
        ruleCount = 1;
        tape.empty();
    }

    // ---- boats

    public int boat(int kind, int what, int time) {
        if (kind < 0 || kind > 5 || what < 0 || time < 0) {
            return BAD;
        }
        if (!fits(CELL, what / 100) || !fits(NUMBER, what % 100) || !fits(PAID, time / 1000)) {
            return BAD;
        }
        if (fleetSize >= MOST_BOATS) {
            return FULL;
        }
        fleet[fleetSize] = newBoat(kind, what, time);
        fleetSize++;
        return fleetSize - 1;
    }

    public int set(int what, int of, int v) {
        if (what < CELL || what > WAITING || !fits(what, v)) {
            return BAD;
        }
        if (what <= NUMBER && !isBoat(of)) {
            return BAD;
        }
        int[] things = what <= NUMBER ? fleet[of].now : lake;
        int was = things[what];
        things[what] = v;
        return was;
    }

    public int told(int boat, int what) {
        if (!isBoat(boat)) {
            return BAD;
        }
        Boat it = fleet[boat];
        switch (what) {
            case 0: return it.now[CELL];
            case 1: return it.now[OUT];
            case 2: return it.now[PAID];
            case 3: return it.now[NUMBER];
            case 4: return it.kind();
            case 5: return it.now[HOW];
            case 6: return it.now[IN_AT];
            case 7: return it.rowsBy(lake[WIND]);
            case 8: return it.hearsBy(lake[WIND]);
            case 9: return wouldComeNow(boat) ? 1 : 0;
            case 10: return owed(boat, lake[MINUTE]);
            default: return BAD;
        }
    }

    private static boolean fits(int what, int v) {
        return v >= LEAST[what] && v <= MOST[what];
    }

    private boolean isBoat(int boat) {
        return boat >= 0 && boat < fleetSize;
    }

    private static Boat newBoat(int kind, int what, int time) {
        switch (kind) {
            case 1: return new Skiff(what, time);
            case 2: return new Punt(what, time);
            case 3: return new Leaky(what, time);
            case 4: return new Deaf(what, time);
            case 5: return new Lovers(what, time);
            default: return new Boat(what, time);
        }
    }

    // ---- texts

    public int feed(int letter) {
        if (letter < 0 || letter > 255) {
            return BAD;
        }
        return tape.add(letter) ? tape.size : FULL;
    }

    public int text() {
        if (ruleCount >= MOST_TEXTS) {
            return FULL;
        }
        int fault = tape.read();
        if (fault == NONE) {
            rules[ruleCount] = tape.ruleRead();
            ruleCount++;
        }
        tape.empty();
        return fault == NONE ? ruleCount - 1 : -100 - fault;
    }

    public int force(int text) {
        if (text < 0 || text >= ruleCount) {
            return BAD;
        }
        int was = lake[RULE];
        lake[RULE] = text;
        return was;
    }

    private Rule rule() {
        return rules[lake[RULE]];
    }

    private void nameAll(int boat, int cell, int minute, int wind) {
        names[FAR_NAME] = far(STAGE, cell);
        names[WIND_NAME] = wind;
        names[LATE_NAME] = minute - fleet[boat].due();
        names[HID_NAME] = isHidden(cell) ? 1 : 0;
        names[BOAT_NAME] = boat;
        names[MINUTE_NAME] = minute;
    }

    private boolean isHidden(int cell) {
        return cell / WIDTH == lake[ISLAND] / WIDTH && cell % WIDTH > lake[ISLAND] % WIDTH;
    }

    private static int far(int from, int to) {
        return Math.abs(from / WIDTH - to / WIDTH) + Math.abs(from % WIDTH - to % WIDTH);
    }

    // ---- calls

    public int call(int boat) {
        if (!isBoat(boat)) {
            return BAD;
        }
        if (!isOnTheLake(boat)) {
            return STATE;
        }
        if (!wouldComeNow(boat)) {
            return 0;
        }
        fleet[boat].now[HOW] = COMING;
        fleet[boat].now[IN_AT] = lake[MINUTE] + needs(boat);
        return 1;
    }

    public int time(int n) {
        return n < 0 || n > MOST_N ? BAD : pass(n);
    }

    public int nobody() {
        int bits = 0;
        for (int i = 0; i < fleetSize; i++) {
            if (isOnTheLake(i) && !wouldComeNow(i)) {
                bits |= 1 << i;
            }
        }
        return bits;
    }

    public int callAt(int boat) {
        if (!isBoat(boat)) {
            return BAD;
        }
        if (!isOnTheLake(boat)) {
            return STATE;
        }
        int soonest = fleet[boat].due() - needs(boat);
        for (int n = 0; n <= MOST_N; n++) {
            int minute = lake[MINUTE] + n;
            if (minute >= soonest && wouldCome(boat, fleet[boat].now[CELL], minute, lake[WIND])) {
                return n;
            }
        }
        return NONE;
    }

    public int allIn() {
        int latest = lake[MINUTE];
        for (int i = 0; i < fleetSize; i++) {
            latest = Math.max(latest, comingAt(i));
        }
        return latest;
    }

    private boolean isOnTheLake(int boat) {
        return fleet[boat].now[HOW] == ON_THE_LAKE;
    }

    private int needs(int boat) {
        return far(STAGE, fleet[boat].now[CELL]) * fleet[boat].rowsBy(lake[WIND]);
    }

    private boolean wouldComeNow(int boat) {
        return wouldCome(boat, fleet[boat].now[CELL], lake[MINUTE], lake[WIND]);
    }

    private boolean wouldCome(int boat, int cell, int minute, int wind) {
        if (far(STAGE, cell) > fleet[boat].hearsBy(wind)) {
            return false;
        }
        nameAll(boat, cell, minute, wind);
        return rule().value(HEARS, names) != 0 && rule().value(COMES, names) != 0;
    }

    /** The minute in which a boat that is coming, or would come now, is in; NONE of any other. */
    private int comingAt(int boat) {
        if (fleet[boat].now[HOW] == COMING) {
            return fleet[boat].now[IN_AT];
        }
        return isOnTheLake(boat) && wouldComeNow(boat) ? lake[MINUTE] + needs(boat) : NONE;
    }

    /** Lets minutes pass, and answers how many boats came in. */
    private int pass(int n) {
        lake[MINUTE] = Math.min(MOST_MINUTE, lake[MINUTE] + n);
        int came = 0;
        for (int i = 0; i < fleetSize; i++) {
            if (fleet[i].now[HOW] == COMING && fleet[i].now[IN_AT] <= lake[MINUTE]) {
                comeIn(i, fleet[i].now[IN_AT]);
                came++;
            }
        }
        return came;
    }

    private void comeIn(int boat, int minute) {
        lake[TAKINGS] += owed(boat, minute);
        lake[WAITING] = Math.max(0, lake[WAITING] - 1);
        fleet[boat].now[HOW] = IN;
        fleet[boat].now[IN_AT] = minute;
    }

    /** What a boat owes that is in at a minute, by the price of that minute. */
    private int owed(int boat, int minute) {
        nameAll(boat, fleet[boat].now[CELL], minute, lake[WIND]);
        int price = Math.max(0, Math.min(MOST_PRICE, rule().value(PRICE, names)));
        return fleet[boat].owesBy(Math.max(0, minute - fleet[boat].due()), price);
    }

    // ---- the launch

    public int fetch(int set, int what) {
        if (!areOnTheLake(set) || what < 0 || what > MOST_BOATS) {
            return BAD;
        }
        readyTug();
        return what == 0 ? tug.minutes(set) : tug.fetchedAs(set, what);
    }

    public int launch(int set) {
        if (!areOnTheLake(set)) {
            return BAD;
        }
        readyTug();
        int minutes = tug.minutes(set);
        pass(minutes);
        for (int i = 0; i < fleetSize; i++) {
            if ((set >> i & 1) == 1) {
                comeIn(i, lake[MINUTE]);
            }
        }
        return minutes;
    }

    public int one(int what) {
        if (what < 0 || what > 1) {
            return BAD;
        }
        readyTug();
        int nearest = NONE;
        int fewest = 0;
        for (int i = 0; i < fleetSize; i++) {
            int minutes = isOnTheLake(i) ? tug.minutes(1 << i) : NONE;
            if (minutes != NONE && (nearest == NONE || minutes < fewest)) {
                nearest = i;
                fewest = minutes;
            }
        }
        return what == 0 ? nearest : fewest;
    }

    public int thunder(int n, int what) {
        if (n < 0 || n > MOST_N || what < 0 || what > 1) {
            return BAD;
        }
        return what == 0 ? inBy(lake[MINUTE] + n) : mostFetched(nobody(), n);
    }

    public int stand() {
        int coming = orderComing();
        int together = 0;
        for (int i = 0; i < lake[WAITING]; i++) {
            together += i < coming ? inOrder[i] - lake[MINUTE] : MOST_N;
        }
        return together;
    }

    public int heard(int sheet) {
        if (!isSheet(sheet)) {
            return BAD;
        }
        Sheet row = sheets[sheet];
        if (row.isMissing()) {
            return NOTHING;
        }
        if (row.size % 2 != 0) {
            return BAD;
        }
        for (int i = 0; i < row.size / 2; i++) {
            if (!isTrue(row.at(2 * i), row.at(2 * i + 1))) {
                return i;
            }
        }
        return NONE;
    }

    public int where(int boat, int y) {
        if (!isBoat(boat) || y < 0 || y >= ROWS) {
            return BAD;
        }
        int bits = 0;
        for (int x = 0; x < WIDTH; x++) {
            if (wouldCome(boat, WIDTH * y + x, lake[MINUTE], lake[WIND])) {
                bits |= 1 << x;
            }
        }
        return bits;
    }

    public int drawn(int seed) {
        int wind = drawnWind(seed);
        int come = 0;
        for (int i = 0; i < fleetSize; i++) {
            if (isOnTheLake(i) && wouldCome(i, fleet[i].now[CELL], lake[MINUTE], wind)) {
                come++;
            }
        }
        return come;
    }

    public long chance(int seed, int n, int part) {
        if (n < 1 || n > MOST_SEEDS || part < 0 || part > 1) {
            return NO;
        }
        int all = 0;
        int onTheLake = Integer.bitCount(those(ON_THE_LAKE));
        for (int i = 0; i < n; i++) {
            if (drawn(seed + i) == onTheLake) {
                all++;
            }
        }
        int by = commonDivisor(all, n);
        return part == 0 ? all / by : n / by;
    }

    public int image() {
        System.arraycopy(lake, 0, keptLake, 0, LAKE_THINGS);
        for (int i = 0; i < fleetSize; i++) {
            fleet[i].keep();
        }
        keptSize = fleetSize;
        return fleetSize;
    }

    public int back() {
        if (keptSize == NONE) {
            return STATE;
        }
        System.arraycopy(keptLake, 0, lake, 0, LAKE_THINGS);
        fleetSize = keptSize;
        for (int i = 0; i < fleetSize; i++) {
            fleet[i].layBack();
        }
        return fleetSize;
    }

    public int count(int what) {
        switch (what) {
            case 0: return fleetSize;
            case 1: return Integer.bitCount(those(ON_THE_LAKE));
            case 2: return Integer.bitCount(those(COMING));
            case 3: return Integer.bitCount(those(IN));
            case 4: return lake[MINUTE];
            case 5: return lake[TAKINGS];
            case 6: return lake[WAITING];
            case 7: return ruleCount;
            case 8: return tape.size;
            case 9: return lake[RULE];
            default: return BAD;
        }
    }

    /** The boats (bits) that are in such a way. */
    private int those(int how) {
        int bits = 0;
        for (int i = 0; i < fleetSize; i++) {
            if (fleet[i].now[HOW] == how) {
                bits |= 1 << i;
            }
        }
        return bits;
    }

    private boolean areOnTheLake(int set) {
        return (set & ~those(ON_THE_LAKE)) == 0;
    }

    private void readyTug() {
        for (int i = 0; i < fleetSize; i++) {
            tug.cells[i] = fleet[i].now[CELL];
        }
        tug.tows = lake[TOWS];
        tug.speed = lake[SPEED];
    }

    private int inBy(int minute) {
        int bits = those(IN);
        for (int i = 0; i < fleetSize; i++) {
            int at = comingAt(i);
            if (at != NONE && at <= minute) {
                bits |= 1 << i;
            }
        }
        return bits;
    }

    /** How many of some boats at most can be fetched in n minutes. */
    private int mostFetched(int set, int n) {
        readyTug();
        int most = 0;
        for (int some = set; some > 0; some--) {
            int size = Integer.bitCount(some);
            if ((some & ~set) == 0 && size > most && tug.minutes(some) <= n) {
                most = size;
            }
        }
        return most;
    }

    /** Puts the minutes in which boats come in, all being called, in order, and answers how many they are. */
    private int orderComing() {
        int size = 0;
        for (int i = 0; i < fleetSize; i++) {
            int at = comingAt(i);
            if (at != NONE) {
                putInOrder(at, size);
                size++;
            }
        }
        return size;
    }

    private void putInOrder(int minute, int size) {
        int place = size;
        while (place > 0 && inOrder[place - 1] > minute) {
            inOrder[place] = inOrder[place - 1];
            place--;
        }
        inOrder[place] = minute;
    }

    /** Whether a boat on the lake, called now, does what a row tells of it. */
    private boolean isTrue(int boat, int came) {
        if (!isBoat(boat) || came < 0 || came > 1 || !isOnTheLake(boat)) {
            return false;
        }
        return wouldComeNow(boat) == (came == 1);
    }

    private static int drawnWind(int seed) {
        int z = seed * 1103515245 + 12345;
        return (z >>> 10) % 10;
    }

    /** The greatest common divisor of some and of all (1 at least). */
    private static int commonDivisor(int some, int all) {
        for (int by = all; by > 1; by--) {
            if (some % by == 0 && all % by == 0) {
                return by;
            }
        }
        return 1;
    }

    // ---- the host

    public int sheet(int sheet, int sort, int n) {
        if (!isSheet(sheet) || sort < Sheet.MISSING || sort > Sheet.INTS) {
            return BAD;
        }
        if (sort == Sheet.MISSING) {
            sheets[sheet].become(sort, 0);
            return 1;
        }
        if (n > MOST_CELLS) {
            return BAD;
        }
        if (n < 0) {
            return BELOW;
        }
        sheets[sheet].become(sort, n);
        return 1;
    }

    public int cell(int sheet, int i, int v) {
        if (!isSheet(sheet)) {
            return BAD;
        }
        if (sheets[sheet].isMissing()) {
            return NOTHING;
        }
        if (!sheets[sheet].has(i, 1)) {
            return OUTSIDE;
        }
        sheets[sheet].put(i, v);
        return 1;
    }

    public int copy(int sheet, int i, int other, int j, int n) {
        if (!isSheet(sheet) || !isSheet(other)) {
            return BAD;
        }
        Sheet from = sheets[sheet];
        Sheet to = sheets[other];
        if (from.isMissing() || to.isMissing()) {
            return NOTHING;
        }
        if (from.sort != to.sort) {
            return OTHER_SORT;
        }
        if (!from.has(i, n) || !to.has(j, n)) {
            return OUTSIDE;
        }
        System.arraycopy(from.row, i, to.row, j, n);
        return n;
    }

    public int boats(int sheet, int sort, int from, int n) {
        if (!isSheet(sheet) || sort < Sheet.BYTES || sort > Sheet.INTS || n < 0 || n > MOST_BOATS) {
            return BAD;
        }
        Sheet row = sheets[sheet];
        if (!row.isMissing() && row.sort != sort) {
            return OTHER_SORT;
        }
        if (row.isMissing()) {
            return NOTHING;
        }
        int came = 0;
        for (int i = 0; i < n; i++) {
            if (!row.has(from + 3L * i, 3)) {
                return OUTSIDE;
            }
            int at = from + 3 * i;
            if (boat(row.at(at), row.at(at + 1), row.at(at + 2)) >= 0) {
                came++;
            }
        }
        return came;
    }

    public int taken(int boat, int k) {
        if (k < 0 || k > 5) {
            return BAD;
        }
        if (!isBoat(boat)) {
            return NOTHING;
        }
        return isOf(fleet[boat], k) ? fleet[boat].now[NUMBER] : OTHER_SORT;
    }

    private static boolean isSheet(int sheet) {
        return sheet >= 0 && sheet < MOST_SHEETS;
    }

    private static boolean isOf(Boat boat, int kind) {
        switch (kind) {
            case 1: return boat instanceof Skiff;
            case 2: return boat instanceof Punt;
            case 3: return boat instanceof Leaky;
            case 4: return boat instanceof Deaf;
            case 5: return boat instanceof Lovers;
            default: return true;
        }
    }

    /** A row of the host; its numbers are made to fit its sort as they are put. */
    private static final class Sheet {
        static final int MISSING = -1, BYTES = 0, SHORTS = 1, INTS = 2;

        final int[] row = new int[MOST_CELLS];
        int sort = MISSING;
        int size;

        /** A size is 0 .. 40. */
        void become(int newSort, int newSize) {
            Arrays.fill(row, 0);
            sort = newSort;
            size = newSize;
        }

        boolean isMissing() {
            return sort == MISSING;
        }

        boolean has(long from, int n) {
            return from >= 0 && n >= 0 && from + n <= size;
        }

        int at(int i) {
            return has(i, 1) ? row[i] : 0;
        }

        void put(int i, int v) {
            if (!has(i, 1)) {
                return;
            }
            switch (sort) {
                case BYTES: row[i] = (byte) v; break;
                case SHORTS: row[i] = (short) v; break;
                default: row[i] = v; break;
            }
        }
    }

    // ---- the kinds of boats

    private static class Boat {
        final int[] now = new int[BOAT_THINGS];
        private final int[] kept = new int[BOAT_THINGS];

        Boat(int what, int time) {
            now[CELL] = what / 100;
            now[NUMBER] = what % 100;
            now[PAID] = time / 1000;
            now[OUT] = time % 1000;
            now[HOW] = ON_THE_LAKE;
            now[IN_AT] = NONE;
        }

        int kind() {
            return 0;
        }

        int rows(int wind) {
            return 2 + wind / 2;
        }

        int hears(int wind) {
            return 12 - wind;
        }

        int owes(int late, int price) {
            return (late + 14) / 15 * price;
        }

        final int rowsBy(int wind) {
            return Math.max(1, rows(wind));
        }

        final int hearsBy(int wind) {
            return Math.max(0, hears(wind));
        }

        final int owesBy(int late, int price) {
            return Math.max(0, owes(late, price));
        }

        final int due() {
            return now[OUT] + now[PAID];
        }

        final void keep() {
            System.arraycopy(now, 0, kept, 0, BOAT_THINGS);
        }

        final void layBack() {
            System.arraycopy(kept, 0, now, 0, BOAT_THINGS);
        }
    }

    private static class Skiff extends Boat {
        Skiff(int what, int time) {
            super(what, time);
        }

        int kind() {
            return 1;
        }

        int rows(int wind) {
            return super.rows(wind) - 1;
        }

        int hears(int wind) {
            return super.hears(wind) + now[NUMBER];
        }
    }

    private static class Punt extends Boat {
        Punt(int what, int time) {
            super(what, time);
        }

        int kind() {
            return 2;
        }

        int rows(int wind) {
            return super.rows(wind) + wind;
        }

        int hears(int wind) {
            return super.hears(wind) - 3;
        }

        int owes(int late, int price) {
            return super.owes(late, price) / 2;
        }
    }

    private static final class Leaky extends Skiff {
        Leaky(int what, int time) {
            super(what, time);
        }

        int kind() {
            return 3;
        }

        int rows(int wind) {
            return super.rows(wind) + now[NUMBER];
        }

        int owes(int late, int price) {
            return 0;
        }
    }

    private static final class Deaf extends Punt {
        Deaf(int what, int time) {
            super(what, time);
        }

        int kind() {
            return 4;
        }

        int hears(int wind) {
            return super.hears(wind) / 2;
        }

        int owes(int late, int price) {
            return super.owes(late, price) + 2;
        }
    }

    private static final class Lovers extends Boat {
        Lovers(int what, int time) {
            super(what, time);
        }

        int kind() {
            return 5;
        }

        int rows(int wind) {
            return 2 * super.rows(wind);
        }

        int hears(int wind) {
            return now[NUMBER] % 2 != 0 ? 0 : super.hears(wind);
        }

        int owes(int late, int price) {
            int asBoat = super.owes(late, price);
            return asBoat > 0 ? asBoat + now[NUMBER] : 0;
        }
    }

    // ---- the launch's ways

    /** The launch: it plans for the cells, what it tows and its speed, as put there ahead of each plan. */
    private static final class Tug {
        private static final int SETS = 128;

        final int[] cells = new int[MOST_BOATS];
        int tows = 1;
        int speed = 1;
        // By what is left of the set (bits) and by who was fetched last: the fewest minutes from there on.
        // Row 0, with nothing left, stays 0.
        private final int[] rest = new int[SETS * MOST_BOATS];

        int minutes(int set) {
            for (int left = 1; left <= set; left++) {
                if ((left & ~set) != 0) {
                    continue;
                }
                for (int last = 0; last < MOST_BOATS; last++) {
                    if (left == set || (set & ~left & 1 << last) != 0) {
                        rest[left * MOST_BOATS + last] = through(set, left, last, best(set, left, last));
                    }
                }
            }
            return rest[set * MOST_BOATS];
        }

        /** The boat that is fetched as such a number (from 1); NONE, if the set is smaller. */
        int fetchedAs(int set, int number) {
            minutes(set);
            int left = set;
            int last = 0;
            for (int i = 1; i <= number && left != 0; i++) {
                last = best(set, left, last);
                left &= ~(1 << last);
                if (i == number) {
                    return last;
                }
            }
            return NONE;
        }

        /** Of those left the first one by which it takes fewest minutes. */
        private int best(int set, int left, int last) {
            int best = NONE;
            int fewest = 0;
            for (int next = 0; next < MOST_BOATS; next++) {
                if ((left >> next & 1) == 0) {
                    continue;
                }
                int minutes = through(set, left, last, next);
                if (best == NONE || minutes < fewest) {
                    best = next;
                    fewest = minutes;
                }
            }
            return best;
        }

        /** The fewest minutes, if this one is fetched next. */
        private int through(int set, int left, int last, int next) {
            int towed = (Integer.bitCount(set) - Integer.bitCount(left)) % tows;
            int from = towed == 0 ? STAGE : cells[last];
            int after = left & ~(1 << next);
            int minutes = far(from, cells[next]) * (speed + towed);
            if (after == 0 || towed + 1 == tows) {
                minutes += far(cells[next], STAGE) * (speed + towed + 1);
            }
            return minutes + rest[after * MOST_BOATS + next];
        }
    }

    // ---- rules

    /** A text as it is reckoned: the three clauses, each of them in postfix, one behind the other. */
    private static final class Rule {
        // A number stands for itself, a name or sign as -1 less its token.
        private final int[] code;
        private final int[] ends;
        // Or, and, a comparison, a sum and a product may wait at each of 6 levels, ahead of one thing more.
        private final int[] stack = new int[31];
        private int height;

        Rule(int[] code, int[] ends) {
            this.code = code;
            this.ends = ends;
        }

        int value(int clause, int[] names) {
            height = 0;
            for (int i = clause == 0 ? 0 : ends[clause - 1]; i < ends[clause]; i++) {
                int sign = -1 - code[i];
                if (sign < 0) {
                    push(code[i]);
                } else if (sign < NAMES) {
                    push(names[sign]);
                } else if (sign == Tape.NEGATED) {
                    push(-pop());
                } else if (sign == Tape.NOT_KEY) {
                    push(pop() == 0 ? 1 : 0);
                } else {
                    int right = pop();
                    push(joined(sign, pop(), right));
                }
            }
            return pop();
        }

        private void push(int value) {
            if (height < stack.length) {
                stack[height] = value;
                height++;
            }
        }

        private int pop() {
            if (height <= 0) {
                return 0;
            }
            height--;
            return stack[height];
        }

        private static int joined(int sign, int left, int right) {
            switch (sign) {
                case Tape.OR_KEY: return left != 0 || right != 0 ? 1 : 0;
                case Tape.AND_KEY: return left != 0 && right != 0 ? 1 : 0;
                case '<': return left < right ? 1 : 0;
                case '=': return left == right ? 1 : 0;
                case '+': return left + right;
                case '-': return left - right;
                default: return left * right;
            }
        }
    }

    /** The tape, and how a text is read from it: each method reads one part, and tells whether all of it could stand. */
    private static final class Tape {
        // Tokens: the names (by their places among them), the keys, numbers; the signs are their bytes.
        static final int PRICE_KEY = 6, OR_KEY = 9, AND_KEY = 10, NOT_KEY = 11, WORDS = 12;
        static final int DIGITS = 12, NEGATED = 13, END = -1, FAULTY = -2;
        private static final int MOST_OPEN = 5, MOST_DIGITS = 4;

        private final int[] bytes = new int[MOST_TAPE];
        int size;
        private final int[] code = new int[MOST_TAPE];
        private int codeSize;
        private final int[] ends = new int[CLAUSES];
        // The token in hand: its first place, the place behind it, what it is, and the number it is.
        private int at;
        private int behind;
        private int token;
        private int number;

        boolean add(int letter) {
            if (size >= MOST_TAPE) {
                return false;
            }
            bytes[size] = letter;
            size++;
            return true;
        }

        void empty() {
            size = 0;
        }

        /** Reads all of the tape: NONE, or the place of its fault. */
        int read() {
            codeSize = 0;
            behind = 0;
            step();
            for (int clause = 0; clause < CLAUSES; clause++) {
                if (!clauseOf(PRICE_KEY + clause)) {
                    return at;
                }
                ends[clause] = codeSize;
            }
            return token == END ? NONE : at;
        }

        /** What was read last, without a fault. */
        Rule ruleRead() {
            return new Rule(Arrays.copyOf(code, codeSize), Arrays.copyOf(ends, CLAUSES));
        }

        private boolean clauseOf(int key) {
            return skip(key) && either(0) && skip(';');
        }

        private boolean either(int open) {
            if (!both(open)) {
                return false;
            }
            for (int i = 0; i < MOST_TAPE && token == OR_KEY; i++) {
                step();
                if (!both(open)) {
                    return false;
                }
                emit(OR_KEY);
            }
            return true;
        }

        private boolean both(int open) {
            if (!denied(open)) {
                return false;
            }
            for (int i = 0; i < MOST_TAPE && token == AND_KEY; i++) {
                step();
                if (!denied(open)) {
                    return false;
                }
                emit(AND_KEY);
            }
            return true;
        }

        private boolean denied(int open) {
            if (token != NOT_KEY) {
                return compared(open);
            }
            if (open >= MOST_OPEN) {
                return false;
            }
            step();
            if (!denied(open + 1)) {
                return false;
            }
            emit(NOT_KEY);
            return true;
        }

        private boolean compared(int open) {
            if (!sum(open)) {
                return false;
            }
            int sign = token;
            if (sign != '<' && sign != '=') {
                return true;
            }
            step();
            if (!sum(open)) {
                return false;
            }
            emit(sign);
            return true;
        }

        private boolean sum(int open) {
            if (!product(open)) {
                return false;
            }
            for (int i = 0; i < MOST_TAPE && (token == '+' || token == '-'); i++) {
                int sign = token;
                step();
                if (!product(open)) {
                    return false;
                }
                emit(sign);
            }
            return true;
        }

        private boolean product(int open) {
            if (!single(open)) {
                return false;
            }
            for (int i = 0; i < MOST_TAPE && token == '*'; i++) {
                step();
                if (!single(open)) {
                    return false;
                }
                emit('*');
            }
            return true;
        }

        private boolean single(int open) {
            if (token == DIGITS) {
                put(number);
                step();
                return true;
            }
            if (token >= 0 && token < NAMES) {
                emit(token);
                step();
                return true;
            }
            if (open >= MOST_OPEN) {
                return false;
            }
            if (token == '-') {
                step();
                if (!single(open + 1)) {
                    return false;
                }
                emit(NEGATED);
                return true;
            }
            if (token != '(') {
                return false;
            }
            step();
            return either(open + 1) && skip(')');
        }

        private boolean skip(int wanted) {
            if (token != wanted) {
                return false;
            }
            step();
            return true;
        }

        private void emit(int nameOrSign) {
            put(-1 - nameOrSign);
        }

        private void put(int item) {
            if (codeSize < MOST_TAPE) {
                code[codeSize] = item;
                codeSize++;
            }
        }

        /** Takes the next token in hand. */
        private void step() {
            at = behind;
            while (at < size && (bytes[at] == ' ' || bytes[at] == '\n')) {
                at++;
            }
            behind = at;
            if (at >= size) {
                token = END;
            } else if (isLetter(bytes[at])) {
                takeWord();
            } else if (isDigit(bytes[at])) {
                takeNumber();
            } else {
                behind = at + 1;
                token = isSign(bytes[at]) ? bytes[at] : FAULTY;
            }
        }

        private void takeWord() {
            while (behind < size && isLetter(bytes[behind])) {
                behind++;
            }
            token = FAULTY;
            for (int word = 0; word < WORDS; word++) {
                if (isSpelled(spelling(word))) {
                    token = word;
                }
            }
        }

        private void takeNumber() {
            number = 0;
            while (behind < size && isDigit(bytes[behind])) {
                number = number * 10 + bytes[behind] - '0';
                behind++;
            }
            token = behind - at <= MOST_DIGITS ? DIGITS : FAULTY;
        }

        private boolean isSpelled(String word) {
            if (word.length() != behind - at) {
                return false;
            }
            for (int i = 0; i < word.length(); i++) {
                if (word.charAt(i) != bytes[at + i]) {
                    return false;
                }
            }
            return true;
        }

        private static String spelling(int word) {
            switch (word) {
                case FAR_NAME: return "far";
                case WIND_NAME: return "wind";
                case LATE_NAME: return "late";
                case HID_NAME: return "hid";
                case BOAT_NAME: return "boat";
                case MINUTE_NAME: return "minute";
                case PRICE_KEY: return "price";
                case PRICE_KEY + HEARS: return "hears";
                case PRICE_KEY + COMES: return "comes";
                case OR_KEY: return "or";
                case AND_KEY: return "and";
                default: return "not";
            }
        }

        private static boolean isLetter(int letter) {
            return letter >= 'a' && letter <= 'z';
        }

        private static boolean isDigit(int letter) {
            return letter >= '0' && letter <= '9';
        }

        private static boolean isSign(int letter) {
            return letter >= '(' && letter <= '+' || letter == '-' || letter >= ';' && letter <= '=';
        }
    }
}
