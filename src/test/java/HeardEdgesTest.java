/** The edges that the document names of what is heard, drawn and laid back, and by promises 18 to 24: one test for each sentence. */
public final class HeardEdgesTest {
    private static final int BAD = -2, STATE = -3, NONE = -1, NOTHING = -11;
    private static final long NO = -4611686018427387904L;
    private static final int LOW = Integer.MIN_VALUE, HIGH = Integer.MAX_VALUE;

    public static void main(String[] args) {
        heardOfAnEmptySheet();
        heardTellsTheFirstRow();
        heardOfNoSuchBoat();
        heardOfNeither1Nor0();
        heardOfOneNotOnTheLake();
        heardOtherwiseThanItWouldCome();
        heardOfTheLastRow();
        heardOfEachSort();
        heardRefusesTheSheet();
        heardOfAMissingSheet();
        heardOfAnOddSize();
        heardIsBadThenNothingThenBad();
        heardChangesNothing();
        whereTellsCellsByBits();
        whereByFarAndHears();
        whereByTheRuleOfThatCell();
        whereOfOneNotOnTheLake();
        whereRefuses();
        whereChangesNothing();
        drawnOfNoBoats();
        drawnIsAnInt();
        drawnIsWithoutASign();
        drawnWereWind();
        drawnIsOfThoseOnTheLake();
        drawnByTheRule();
        drawnChangesNothing();
        chanceOfOneSeed();
        chanceOfTwentySeeds();
        chanceOfSeedsThatWrap();
        chanceOfNone();
        chanceOfAll();
        chanceInLowestTerms();
        chanceOfNoBoats();
        chanceOfNoneOnTheLake();
        chanceRefuses();
        chanceChangesNothing();
        backToNoImage();
        imageOfNoBoats();
        imageKeepsBoats();
        imageKeepsHowEachIs();
        imageKeepsTheLake();
        imageKeepsTheMinuteAndTakings();
        imageKeepsTheRule();
        boatsThatCameSinceGo();
        boatsThatCameAheadStay();
        backAgainAndAgain();
        aNewerImageTakesThePlace();
        anImageIsKeptAsItWas();
        textsTapeAndSheetsAreNotKept();
        countOfANewObject();
        countOfAll();
        countRefuses();
        the512thCall();
        Check.end();
    }

    private static int heard(BoatsCalledIn x, int... numbers) {
        Check.sheet(x, 1, 2, numbers);
        return x.heard(1);
    }

    /** Boats 0 and 2 would come, 1 and 3 wouldn't. */
    private static BoatsCalledIn fourBoats() {
        BoatsCalledIn x = Check.willing(1);
        for (int i = 0; i < 4; i++) {
            Check.boat(x, i % 2 == 0 ? 0 : 4, 0, 47, 0, 5);
        }
        return x;
    }

    // HEARD: a SHEET tells, two by two: nothing
    private static void heardOfAnEmptySheet() {
        BoatsCalledIn x = new BoatsCalledIn();
        for (int sort = 0; sort < 3; sort++) {
            x.sheet(0, sort, 0);
            Check.due("nothing, of sort " + sort, x.heard(0), NONE);
        }
    }

    // the first row (from 0)
    private static void heardTellsTheFirstRow() {
        BoatsCalledIn x = fourBoats();
        Check.due("all are true", heard(x, 0, 1, 1, 0, 2, 1, 3, 0), NONE);
        Check.due("the first", heard(x, 0, 0, 1, 1, 2, 0), 0);
        Check.due("the second", heard(x, 0, 1, 1, 1, 2, 0), 1);
        Check.due("the third", heard(x, 0, 1, 1, 0, 2, 0), 2);
        Check.due("the fourth", heard(x, 0, 1, 1, 0, 2, 1, 3, 1), 3);
        Check.due("one alone, true", heard(x, 3, 0), NONE);
        Check.due("one alone, not true", heard(x, 3, 1), 0);
    }

    // .. that is none such: a BOAT
    private static void heardOfNoSuchBoat() {
        BoatsCalledIn x = fourBoats();
        int[] none = {-1, 4, 5, 7, LOW, HIGH};
        for (int boat : none) {
            Check.due("boat " + boat + " came", heard(x, 0, 1, boat, 1), 1);
            Check.due("boat " + boat + " didn't", heard(x, 0, 1, boat, 0), 1);
        }
        BoatsCalledIn y = new BoatsCalledIn();
        Check.due("of no boats", heard(y, 0, 0), 0);
    }

    // .. none such: 1 (it came, called now), or 0
    private static void heardOfNeither1Nor0() {
        BoatsCalledIn x = fourBoats();
        int[] neither = {-1, 2, 3, 255, 256, LOW, HIGH, -256};
        for (int came : neither) {
            Check.due("one that would come: " + came, heard(x, 2, 1, 0, came), 1);
            Check.due("one that wouldn't: " + came, heard(x, 2, 1, 1, came), 1);
        }
    }

    // .. of one that isn't ON THE LAKE
    private static void heardOfOneNotOnTheLake() {
        BoatsCalledIn x = fourBoats();
        x.call(0);
        Check.due("one that is coming: it came", heard(x, 2, 1, 0, 1), 1);
        Check.due("one that is coming: it didn't", heard(x, 2, 1, 0, 0), 1);
        x.time(240);
        Check.due("one that is in: it came", heard(x, 2, 1, 0, 1), 1);
        Check.due("one that is in: it didn't", heard(x, 2, 1, 0, 0), 1);
        Check.due("the others", heard(x, 2, 1, 3, 0), NONE);
    }

    // .. or otherwise than it WOULD COME
    private static void heardOtherwiseThanItWouldCome() {
        BoatsCalledIn x = fourBoats();
        Check.due("0 would come", heard(x, 0, 1), NONE);
        Check.due("1 wouldn't", heard(x, 1, 0), NONE);
        x.set(5, 0, 1);
        Check.due("0 wouldn't by this wind", heard(x, 0, 1), 0);
        Check.due("0 wouldn't", heard(x, 0, 0), NONE);
        x.set(0, 1, 0);
        Check.due("1 would from there", heard(x, 1, 0), 0);
        Check.due("1 would", heard(x, 1, 1), NONE);
    }

    // .. of a SHEET of 40
    private static void heardOfTheLastRow() {
        BoatsCalledIn x = fourBoats();
        x.sheet(2, 2, 40);
        for (int i = 0; i < 20; i++) {
            x.cell(2, 2 * i, 1);
        }
        Check.due("20 true rows", x.heard(2), NONE);
        x.cell(2, 39, 1);
        Check.due("the last row", x.heard(2), 19);
        x.cell(2, 39, 0);
        x.cell(2, 38, 4);
        Check.due("the last row's boat", x.heard(2), 19);
        x.cell(2, 1, 1);
        Check.due("the first row", x.heard(2), 0);
    }

    // a SHEET: of bytes, shorts, ints
    private static void heardOfEachSort() {
        BoatsCalledIn x = fourBoats();
        for (int sort = 0; sort < 3; sort++) {
            Check.sheet(x, 3, sort, 0, 1, 1, 0, 2, 0, 3, 0);
            Check.due("of sort " + sort, x.heard(3), 2);
        }
        int[] due = {NONE, 0, 0};
        for (int sort = 0; sort < 3; sort++) {
            Check.sheet(x, 3, sort, 256, 257);
            Check.due("256 and 257, of sort " + sort, x.heard(3), due[sort]);
        }
        int[] due16 = {NONE, NONE, 0};
        for (int sort = 0; sort < 3; sort++) {
            Check.sheet(x, 3, sort, 65536, 65537);
            Check.due("65536 and 65537, of sort " + sort, x.heard(3), due16[sort]);
        }
    }

    // heard: BAD: SHEET
    private static void heardRefusesTheSheet() {
        BoatsCalledIn x = fourBoats();
        int[] bad = {-1, 4, 5, LOW, HIGH};
        for (int sheet : bad) {
            Check.due("heard(" + sheet + ")", x.heard(sheet), BAD);
        }
        for (int sheet = 0; sheet < 4; sheet++) {
            Check.sheet(x, sheet, 2, 0, 0);
            Check.due("heard(" + sheet + ")", x.heard(sheet), 0);
        }
    }

    // heard: -11
    private static void heardOfAMissingSheet() {
        BoatsCalledIn x = fourBoats();
        for (int sheet = 0; sheet < 4; sheet++) {
            Check.due("missing at first: " + sheet, x.heard(sheet), NOTHING);
            x.sheet(sheet, 0, 0);
            Check.due("empty: " + sheet, x.heard(sheet), NONE);
            x.sheet(sheet, -1, 0);
            Check.due("missing again: " + sheet, x.heard(sheet), NOTHING);
        }
    }

    // heard: BAD: its size is odd
    private static void heardOfAnOddSize() {
        BoatsCalledIn x = fourBoats();
        for (int size = 0; size <= 40; size++) {
            x.sheet(0, 2, size);
            int due = size == 0 ? NONE : size % 2 == 0 ? 0 : BAD;
            Check.due("size " + size, x.heard(0), due);
        }
        Check.sheet(x, 0, 2, 0, 1, 1);
        Check.due("one row and a half", x.heard(0), BAD);
    }

    // BAD: SHEET; -11; BAD: its size is odd; NONE
    private static void heardIsBadThenNothingThenBad() {
        BoatsCalledIn x = new BoatsCalledIn();
        Check.due("no such sheet", x.heard(4), BAD);
        Check.due("missing", x.heard(0), NOTHING);
        x.sheet(0, 2, 3);
        Check.due("odd, and of no such boat", x.heard(0), BAD);
        x.sheet(0, 2, 2);
        Check.due("of no such boat", x.heard(0), 0);
    }

    // heard asks, and changes nothing
    private static void heardChangesNothing() {
        BoatsCalledIn x = fourBoats();
        Check.sheet(x, 0, 2, 0, 1, 0, 1, 1, 0);
        String before = Check.seen(x);
        Check.due("told twice of one", x.heard(0), NONE);
        Check.unchanged("heard", before, x);
        Check.due("nobody came", x.count(1), 4);
    }

    // WHERE: CELLS of a row y (bits by x)
    private static void whereTellsCellsByBits() {
        BoatsCalledIn x = new BoatsCalledIn();
        Check.rule(x, "1", "1", "far=7");
        Check.boat(x, 0, 0, 0, 0, 5);
        for (int y = 0; y < 6; y++) {
            Check.due("row " + y, x.where(0, y), 1 << 7 - y);
        }
        Check.rule(x, "1", "1", "1");
        Check.boat(x, 0, 0, 0, 0, 5);
        for (int y = 0; y < 6; y++) {
            Check.due("all of row " + y, x.where(1, y), 255);
        }
        Check.rule(x, "1", "0", "1");
        for (int y = 0; y < 6; y++) {
            Check.due("none of row " + y, x.where(1, y), 0);
        }
    }

    // .. from which a BOAT, were it there, WOULD COME now
    private static void whereByFarAndHears() {
        int[][] made = {{0, 0}, {1, 3}, {2, 0}, {3, 9}, {4, 5}, {5, 2}, {5, 3}};
        for (int wind = 0; wind < 10; wind += 3) {
            BoatsCalledIn x = Check.willing(1);
            x.set(5, 0, wind);
            for (int boat = 0; boat < made.length; boat++) {
                Check.boat(x, made[boat][0], made[boat][1], 27, 0, 5);
                for (int y = 0; y < 6; y++) {
                    int reach = x.told(boat, 8) - y;
                    int bits = reach < 0 ? 0 : (2 << Math.min(7, reach)) - 1;
                    Check.due("kind " + made[boat][0] + " in row " + y + " by wind " + wind, x.where(boat, y), bits);
                }
            }
        }
    }

    // were it there: hid and far of that CELL, late, boat and minute of its own
    private static void whereByTheRuleOfThatCell() {
        BoatsCalledIn x = new BoatsCalledIn();
        Check.boat(x, 0, 0, 31, 0, 5);
        Check.boat(x, 0, 0, 0, 0, 240);
        x.time(5);
        int[] rows = {255, 255, 255, 15, 255, 255};
        for (int y = 0; y < 6; y++) {
            Check.due("not hidden in row " + y, x.where(0, y), rows[y]);
            Check.due("too early in row " + y, x.where(1, y), 0);
        }
        x.set(4, 0, 0);
        Check.due("the stage beside the island", x.where(0, 0), 1);
        Check.rule(x, "1", "hid=0", "far<4 and boat=1 and minute=5 and late<0");
        x.set(4, 0, 9);
        int[] near = {15, 3, 3, 1, 0, 0};
        for (int y = 0; y < 6; y++) {
            Check.due("another boat in row " + y, x.where(0, y), 0);
            Check.due("the boat in row " + y, x.where(1, y), near[y]);
        }
    }

    // a BOAT: in any state
    private static void whereOfOneNotOnTheLake() {
        BoatsCalledIn x = Check.willing(1);
        Check.boat(x, 4, 0, 0, 0, 5);
        for (int how = 0; how < 3; how++) {
            Check.due("how", x.told(0, 5), how);
            Check.due("near", x.where(0, 0), 31);
            Check.due("far", x.where(0, 4), 1);
            Check.due("farther", x.where(0, 5), 0);
            if (how == 0) {
                x.call(0);
            } else {
                x.time(0);
            }
        }
    }

    // where: BAD
    private static void whereRefuses() {
        BoatsCalledIn x = Check.willing(1);
        Check.due("of none", x.where(0, 0), BAD);
        Check.boat(x, 0, 0, 0, 0, 5);
        int[] boats = {-1, 1, 2, 6, 7, LOW, HIGH};
        for (int boat : boats) {
            Check.due("where(" + boat + ", 0)", x.where(boat, 0), BAD);
            Check.due("where(" + boat + ", 6)", x.where(boat, 6), BAD);
        }
        int[] rows = {-1, 6, 7, LOW, HIGH};
        for (int y : rows) {
            Check.due("where(0, " + y + ")", x.where(0, y), BAD);
        }
        Check.due("where(0, 0)", x.where(0, 0), 255);
        Check.due("where(0, 5)", x.where(0, 5), 255);
    }

    // where asks, and changes nothing
    private static void whereChangesNothing() {
        BoatsCalledIn x = Check.willing(1);
        Check.boat(x, 0, 0, 28, 0, 5);
        String before = Check.seen(x);
        x.where(0, 5);
        Check.unchanged("where", before, x);
        Check.due("its cell", x.told(0, 0), 28);
    }

    /** The wind of a seed by longs alone. */
    private static int wind(int seed) {
        long z = Math.floorMod(seed * 1103515245L + 12345L, 4294967296L);
        return (int) (z / 1024 % 10);
    }

    /** Boat 0 comes by one wind alone; so drawn answers 1, if that wind is drawn. */
    private static void drawnIs(int seed, int wind) {
        BoatsCalledIn x = new BoatsCalledIn();
        Check.rule(x, "1", "1", "wind=" + wind);
        Check.boat(x, 0, 0, 0, 0, 5);
        Check.due("by seed " + seed + " wind is " + wind, x.drawn(seed), 1);
        Check.due("by the formula", wind(seed), wind);
    }

    // DRAWN: how many ON THE LAKE: none
    private static void drawnOfNoBoats() {
        BoatsCalledIn x = Check.willing(1);
        int[] seeds = {0, 1, -1, LOW, HIGH};
        for (int seed : seeds) {
            Check.due("drawn(" + seed + ")", x.drawn(seed), 0);
        }
    }

    // z = SEED * 1103515245 + 12345 (an int)
    private static void drawnIsAnInt() {
        // 12345 >>> 10 is 12; by 1, z is 1103527590; by 2, 4 and more it is beyond an int
        drawnIs(0, 2);
        drawnIs(1, 1103527590 / 1024 % 10);
        drawnIs(4, wind(4));
        drawnIs(100, wind(100));
        drawnIs(65536, wind(65536));
        // where one more or less would draw another wind
        int met = 0;
        for (int seed = 0; met < 6; seed++) {
            int low = seed * 1103515245 + 12345 & 1023;
            if (low == 0 || low == 1023) {
                drawnIs(seed, wind(seed));
                met++;
            }
        }
        drawnIs(HIGH, wind(HIGH));
        drawnIs(LOW + 1, wind(LOW + 1));
    }

    // (z >>> 10) % 10: of a z below 0
    private static void drawnIsWithoutASign() {
        int below = 0;
        for (int seed = 0; below < 6; seed++) {
            if (seed * 1103515245 + 12345 < 0) {
                drawnIs(seed, wind(seed));
                below++;
            }
        }
        drawnIs(-1, wind(-1));
        drawnIs(-2, wind(-2));
        drawnIs(LOW, wind(LOW));
    }

    // were WIND ..: HEARS and the rule's wind by it
    private static void drawnWereWind() {
        BoatsCalledIn x = Check.willing(1);
        for (int i = 0; i < 7; i++) {
            Check.boat(x, 0, 0, i == 0 ? 7 : 7 + 8 * (i - 1), 0, 5);
        }
        x.set(0, 0, 2);
        int[] met = new int[10];
        for (int seed = -40; seed < 40; seed++) {
            int wind = wind(seed);
            int reach = 12 - wind;
            int come = 1 + Math.max(0, Math.min(6, reach - 6));
            Check.due("drawn(" + seed + ")", x.drawn(seed), come);
            met[wind]++;
        }
        for (int wind = 0; wind < 10; wind++) {
            Check.due("wind " + wind + " was drawn", met[wind] > 0 ? 1 : 0, 1);
        }
        x.set(5, 0, 9);
        Check.due("whatever the wind is", x.drawn(0), 1 + 4);
    }

    // how many ON THE LAKE WOULD COME
    private static void drawnIsOfThoseOnTheLake() {
        BoatsCalledIn x = Check.willing(1);
        for (int i = 0; i < 5; i++) {
            Check.boat(x, i == 4 ? 4 : 0, 0, i == 4 ? 47 : i == 1 ? 1 : 0, 0, 5);
        }
        Check.due("four of five", x.drawn(0), 4);
        x.call(0);
        x.call(1);
        Check.due("two are coming", x.drawn(0), 2);
        x.time(0);
        Check.due("one of them is in", x.drawn(0), 2);
        x.launch(12);
        Check.due("two more are in", x.drawn(0), 0);
    }

    // .. WOULD COME: in this minute, by hears and comes, each in its CELL
    private static void drawnByTheRule() {
        BoatsCalledIn x = new BoatsCalledIn();
        Check.boat(x, 0, 0, 9, 0, 30);
        Check.boat(x, 0, 0, 28, 0, 30);
        Check.boat(x, 0, 0, 9, 0, 31);
        x.time(25);
        Check.due("too early", x.drawn(0), 0);
        x.time(1);
        Check.due("one is due soon", x.drawn(0), 1);
        x.time(1);
        Check.due("two are", x.drawn(0), 2);
        x.set(4, 0, 0);
        Check.due("none is hidden", x.drawn(0), 3);
        Check.rule(x, "1", "1", "minute=27 and far=2 and boat=2");
        Check.due("by its minute, cell and place", x.drawn(0), 1);
        x.time(1);
        Check.due("a minute later", x.drawn(0), 0);
    }

    // drawn asks, and changes nothing
    private static void drawnChangesNothing() {
        BoatsCalledIn x = Check.willing(1);
        Check.boat(x, 0, 0, 7, 0, 5);
        x.set(5, 0, 4);
        String before = Check.seen(x);
        x.drawn(7);
        Check.unchanged("drawn", before, x);
    }

    private static void chance(BoatsCalledIn x, int seed, int n, int above, int below) {
        Check.due("chance(" + seed + ", " + n + ", 0)", x.chance(seed, n, 0), above);
        Check.due("chance(" + seed + ", " + n + ", 1)", x.chance(seed, n, 1), below);
    }

    /** One boat that comes by wind 0 to 5, as often as such winds are drawn. */
    private static BoatsCalledIn oneBoat() {
        BoatsCalledIn x = Check.willing(1);
        Check.boat(x, 0, 0, 7, 0, 5);
        return x;
    }

    private static int calm(int seed, int n) {
        int calm = 0;
        for (int i = 0; i < n; i++) {
            calm += wind(seed + i) <= 5 ? 1 : 0;
        }
        return calm;
    }

    private static int divisor(int a, int b) {
        return b == 0 ? a : divisor(b, a % b);
    }

    // IN n seeds (1 ..)
    private static void chanceOfOneSeed() {
        BoatsCalledIn x = oneBoat();
        for (int seed = -20; seed < 20; seed++) {
            chance(x, seed, 1, wind(seed) <= 5 ? 1 : 0, 1);
        }
    }

    // .. (.. 20), SEED and each 1 more
    private static void chanceOfTwentySeeds() {
        BoatsCalledIn x = oneBoat();
        for (int seed = 0; seed < 40; seed++) {
            int calm = calm(seed, 20);
            int by = divisor(20, calm);
            chance(x, seed, 20, calm / by, 20 / by);
        }
    }

    // SEED and each 1 more (an int)
    private static void chanceOfSeedsThatWrap() {
        BoatsCalledIn x = oneBoat();
        for (int seed = HIGH - 5; seed != LOW + 2; seed++) {
            for (int n = 1; n < 14; n += 3) {
                int calm = calm(seed, n);
                int by = divisor(n, calm);
                chance(x, seed, n, calm / by, n / by);
            }
        }
    }

    // of these those by which all ON THE LAKE WOULD: none
    private static void chanceOfNone() {
        BoatsCalledIn x = oneBoat();
        Check.boat(x, 4, 0, 47, 0, 5);
        for (int n = 1; n <= 20; n++) {
            chance(x, 3, n, 0, 1);
        }
    }

    // .. all
    private static void chanceOfAll() {
        BoatsCalledIn x = Check.willing(1);
        for (int i = 0; i < 7; i++) {
            Check.boat(x, 0, 0, 3, 0, 5);
        }
        for (int n = 1; n <= 20; n++) {
            chance(x, n, n, 1, 1);
        }
    }

    // part 0 above, 1 below the line, in lowest terms
    private static void chanceInLowestTerms() {
        BoatsCalledIn x = oneBoat();
        int cut = 0;
        for (int n = 1; n <= 20; n++) {
            for (int seed = 50; seed < 60; seed++) {
                int calm = calm(seed, n);
                int by = divisor(n, calm);
                chance(x, seed, n, calm / by, n / by);
                cut += by > 1 && calm > 0 && calm < n ? 1 : 0;
            }
        }
        Check.due("some were to be shortened", cut > 10 ? 1 : 0, 1);
    }

    // all ON THE LAKE: of no BOATS
    private static void chanceOfNoBoats() {
        BoatsCalledIn x = new BoatsCalledIn();
        chance(x, 0, 1, 1, 1);
        chance(x, 0, 20, 1, 1);
        chance(x, HIGH, 7, 1, 1);
    }

    // all ON THE LAKE: of none that are there
    private static void chanceOfNoneOnTheLake() {
        BoatsCalledIn x = Check.willing(1);
        Check.boat(x, 0, 0, 0, 0, 5);
        Check.boat(x, 0, 0, 1, 0, 5);
        Check.boat(x, 4, 0, 47, 0, 5);
        chance(x, 5, 6, 0, 1);
        x.launch(4);
        x.set(0, 0, 47);
        x.set(0, 1, 47);
        x.set(5, 0, 0);
        x.call(0);
        x.call(1);
        chance(x, 5, 6, 1, 1);
        x.time(240);
        chance(x, 5, 6, 1, 1);
    }

    // NO: n, part
    private static void chanceRefuses() {
        BoatsCalledIn x = oneBoat();
        int[] n = {0, -1, 21, 22, LOW, HIGH};
        int[] part = {-1, 2, 3, LOW, HIGH, 4};
        for (int i = 0; i < 6; i++) {
            Check.due("chance(0, " + n[i] + ", 0)", x.chance(0, n[i], 0), NO);
            Check.due("chance(0, " + n[i] + ", 1)", x.chance(0, n[i], 1), NO);
            Check.due("chance(0, 1, " + part[i] + ")", x.chance(0, 1, part[i]), NO);
            Check.due("chance(0, 20, " + part[i] + ")", x.chance(0, 20, part[i]), NO);
            Check.due("chance(0, " + n[i] + ", " + part[i] + ")", x.chance(0, n[i], part[i]), NO);
        }
    }

    // chance asks, and changes nothing
    private static void chanceChangesNothing() {
        BoatsCalledIn x = oneBoat();
        x.set(5, 0, 4);
        String before = Check.seen(x);
        x.chance(7, 20, 0);
        x.chance(7, 20, 1);
        Check.unchanged("chance", before, x);
    }

    // back: STATE: there is none
    private static void backToNoImage() {
        BoatsCalledIn x = new BoatsCalledIn();
        Check.due("no image", x.back(), STATE);
        Check.boat(x, 0, 0, 5, 0, 5);
        x.set(5, 0, 3);
        String before = Check.seen(x);
        Check.due("no image yet", x.back(), STATE);
        Check.unchanged("a refused back", before, x);
        Check.due("an image", x.image(), 1);
        Check.due("back", x.back(), 1);
    }

    // image: how many BOATS: none
    private static void imageOfNoBoats() {
        BoatsCalledIn x = new BoatsCalledIn();
        Check.due("of no boats", x.image(), 0);
        Check.due("back to no boats", x.back(), 0);
        Check.boat(x, 0, 0, 5, 0, 5);
        Check.due("back to no boats again", x.back(), 0);
        Check.due("no boats", x.count(0), 0);
        Check.due("nor one of them", x.told(0, 0), BAD);
        Check.due("the next one is the first", x.boat(3, 4709, 240999), 0);
    }

    // keeps CELLS, OUT, PAID, NUMBERS of BOATS
    private static void imageKeepsBoats() {
        for (int what = 0; what < 4; what++) {
            BoatsCalledIn x = new BoatsCalledIn();
            for (int i = 0; i < 7; i++) {
                Check.boat(x, i % 6, i, 40 + i, 100 + i, 30 + i);
            }
            String before = Check.seen(x);
            Check.due("image", x.image(), 7);
            for (int i = 0; i < 7; i++) {
                x.set(what, i, 9 - i / 2);
            }
            Check.due("changed", x.told(6, what), 6);
            Check.due("back", x.back(), 7);
            Check.unchanged("back after set " + what, before, x);
        }
    }

    // .. how each is
    private static void imageKeepsHowEachIs() {
        BoatsCalledIn x = Check.willing(1);
        for (int i = 0; i < 4; i++) {
            Check.boat(x, 0, 0, 3 * i, 0, 5);
        }
        x.call(0);
        x.call(1);
        x.time(2);
        x.call(2);
        String before = Check.seen(x);
        x.image();
        x.launch(8);
        x.time(240);
        Check.due("all are in", x.count(3), 4);
        x.back();
        Check.unchanged("back", before, x);
        int[] how = {2, 1, 1, 0};
        int[] in = {0, 6, 14, NONE};
        for (int boat = 0; boat < 4; boat++) {
            Check.due("how is " + boat, x.told(boat, 5), how[boat]);
            Check.due("in is " + boat, x.told(boat, 6), in[boat]);
        }
        Check.due("the second comes in", x.time(4), 1);
        x.back();
        x.call(3);
        Check.due("called after back", x.told(3, 6), 2 + 4);
        x.back();
        Check.due("not called after another", x.told(3, 6), NONE);
    }

    // .. THE ISLAND, WIND, .. LAUNCH, WAITING
    private static void imageKeepsTheLake() {
        int[] first = {13, 4, 3, 5, 6};
        for (int what = 4; what < 9; what++) {
            BoatsCalledIn x = new BoatsCalledIn();
            for (int i = 4; i < 9; i++) {
                x.set(i, 0, first[i - 4]);
            }
            x.image();
            x.set(what, 0, 2);
            x.back();
            for (int i = 4; i < 9; i++) {
                Check.due("set " + what + " and back: " + i, x.set(i, 0, 1), first[i - 4]);
            }
            x.back();
            for (int i = 4; i < 9; i++) {
                Check.due("all set and back: " + i, x.set(i, 0, 1), first[i - 4]);
            }
        }
    }

    // .. THE MINUTE, .. TAKINGS
    private static void imageKeepsTheMinuteAndTakings() {
        BoatsCalledIn x = Check.willing(9);
        Check.boat(x, 0, 0, 0, 0, 5);
        Check.boat(x, 0, 0, 0, 0, 5);
        x.time(6);
        x.call(0);
        x.time(1);
        x.image();
        x.call(1);
        x.time(240);
        Check.due("takings of both", x.count(5), 9 + 9);
        x.back();
        Check.due("the minute", x.count(4), 7);
        Check.due("takings of one", x.count(5), 9);
        x.launch(2);
        Check.due("takings of both again", x.count(5), 18);
        Check.pass(x, 9999);
        x.back();
        Check.due("the minute from the last one", x.count(4), 7);
    }

    // .. THE RULE
    private static void imageKeepsTheRule() {
        BoatsCalledIn x = new BoatsCalledIn();
        Check.text(x, "price 1;hears 1;comes 1;");
        x.force(1);
        x.image();
        Check.text(x, "price 2;hears 1;comes 1;");
        x.force(2);
        x.back();
        Check.due("the rule", x.count(9), 1);
        x.force(0);
        x.back();
        Check.due("the rule again", x.count(9), 1);
        Check.due("the text that came since stays", x.force(2), 1);
    }

    // (BOATS that came since go)
    private static void boatsThatCameSinceGo() {
        BoatsCalledIn x = Check.willing(1);
        Check.boat(x, 0, 1, 1, 1, 11);
        Check.boat(x, 0, 2, 2, 2, 12);
        x.image();
        for (int i = 2; i < 7; i++) {
            Check.boat(x, 5, 9, 9, 9, 99);
        }
        Check.due("there is no room", x.boat(0, 0, 5000), -4);
        Check.due("back", x.back(), 2);
        Check.due("two boats", x.count(0), 2);
        Check.due("the third one is gone", x.told(2, 0), BAD);
        Check.due("it isn't called", x.call(2), BAD);
        Check.due("it isn't fetched", x.fetch(4, 0), BAD);
        Check.due("nor told as nobody", x.nobody(), 0);
        Check.due("there is room for five", Check.boat(x, 1, 3, 3, 3, 13), 2);
        int[] told = {3, 3, 13, 3, 1, 0, NONE};
        for (int what = 0; what < 7; what++) {
            Check.due("a new one's " + what, x.told(2, what), told[what]);
        }
        Check.due("back again", x.back(), 2);
        Check.due("it is gone again", x.told(2, 0), BAD);
    }

    // (.. those that came ahead stay)
    private static void boatsThatCameAheadStay() {
        BoatsCalledIn x = new BoatsCalledIn();
        for (int i = 0; i < 7; i++) {
            Check.boat(x, i % 6, i, i, i, 9);
        }
        Check.due("image of seven", x.image(), 7);
        x.launch(127);
        Check.due("back to seven", x.back(), 7);
        for (int i = 0; i < 7; i++) {
            Check.due("kind of " + i, x.told(i, 4), i % 6);
            Check.due("how is " + i, x.told(i, 5), 0);
        }
    }

    // All that it keeps is as in THE IMAGE: more than once
    private static void backAgainAndAgain() {
        BoatsCalledIn x = Check.willing(1);
        Check.boat(x, 0, 5, 9, 0, 5);
        x.set(8, 0, 9);
        x.image();
        String before = Check.seen(x);
        for (int i = 0; i < 3; i++) {
            x.set(3, 0, i);
            x.set(6, 0, 6);
            x.set(0, 0, 10 + i);
            x.time(100 + i);
            x.launch(1);
            Check.due("back", x.back(), 1);
            Check.unchanged("back " + i, before, x);
        }
    }

    // AN IMAGE: the newer one
    private static void aNewerImageTakesThePlace() {
        BoatsCalledIn x = Check.willing(1);
        Check.boat(x, 0, 1, 9, 0, 5);
        Check.due("image", x.image(), 1);
        Check.boat(x, 0, 2, 9, 0, 5);
        x.set(3, 0, 7);
        x.set(5, 0, 3);
        Check.due("a newer image", x.image(), 2);
        x.set(3, 0, 8);
        x.set(5, 0, 4);
        Check.due("back to the newer one", x.back(), 2);
        Check.due("number", x.told(0, 3), 7);
        Check.due("wind", x.set(5, 0, 3), 3);
    }

    // AN IMAGE is kept: what comes later leaves it as it is
    private static void anImageIsKeptAsItWas() {
        BoatsCalledIn x = new BoatsCalledIn();
        Check.boat(x, 0, 1, 9, 0, 5);
        x.image();
        x.set(0, 0, 10);
        x.back();
        x.set(0, 0, 11);
        x.set(4, 0, 12);
        x.back();
        Check.due("its cell", x.told(0, 0), 9);
        Check.due("the island", x.set(4, 0, 27), 27);
    }

    // All that it keeps (and no more): TEXTS, THE TAPE, SHEETS stay
    private static void textsTapeAndSheetsAreNotKept() {
        BoatsCalledIn x = new BoatsCalledIn();
        x.feed('p');
        x.image();
        x.feed('r');
        x.sheet(0, 1, 4);
        x.back();
        Check.due("the tape", x.count(8), 2);
        Check.due("the sheet", x.cell(0, 3, 1), 1);
        Check.text(x, "");
        x.back();
        Check.due("the tape is empty", x.count(8), 0);
        Check.due("a text", Check.text(x, "price 1;hears 1;comes 1;"), 1);
        x.back();
        Check.due("texts", x.count(7), 2);
        Check.sheet(x, 2, 2, 0, 300, 30000);
        x.back();
        Check.due("a boat by a sheet", x.boats(2, 2, 0, 1), 1);
        x.back();
        Check.due("and again", x.boats(2, 2, 0, 1), 1);
    }

    // count of a new object
    private static void countOfANewObject() {
        BoatsCalledIn x = new BoatsCalledIn();
        int[] counts = {0, 0, 0, 0, 0, 0, 0, 1, 0, 0};
        for (int what = 0; what < 10; what++) {
            Check.due("count(" + what + ")", x.count(what), counts[what]);
        }
    }

    // How many: 0 BOATS .. 9 THE RULE
    private static void countOfAll() {
        BoatsCalledIn x = Check.willing(5);
        for (int i = 0; i < 7; i++) {
            Check.boat(x, 0, 0, i < 2 ? 0 : 7, 0, 5);
        }
        x.set(8, 0, 20);
        x.time(7);
        for (int i = 0; i < 6; i++) {
            x.call(i);
        }
        x.time(1);
        x.feed('a');
        x.feed('b');
        x.feed('c');
        int[] counts = {7, 1, 4, 2, 8, 10, 18, 2, 3, 1};
        for (int what = 0; what < 10; what++) {
            Check.due("count(" + what + ")", x.count(what), counts[what]);
        }
        x.time(240);
        x.launch(64);
        int[] later = {7, 0, 0, 7};
        for (int what = 0; what < 4; what++) {
            Check.due("later count(" + what + ")", x.count(what), later[what]);
        }
    }

    // count: BAD
    private static void countRefuses() {
        BoatsCalledIn x = new BoatsCalledIn();
        int[] bad = {-1, 10, 11, 100, LOW, HIGH};
        for (int what : bad) {
            Check.due("count(" + what + ")", x.count(what), BAD);
        }
    }

    // An object is used for at most 512 calls after it has been made
    private static void the512thCall() {
        BoatsCalledIn x = new BoatsCalledIn();
        Check.due("the first call", x.image(), 0);
        for (int calls = 1; calls < 501; calls += 5) {
            Check.due("a boat", x.boat(0, 309, 5000), 0);
            Check.due("a sheet", x.sheet(calls % 4, 2, 40), 1);
            Check.due("a fault", x.text(), -100);
            Check.due("fetch", x.fetch(1, 0), 9);
            Check.due("back", x.back(), 0);
        }
        Check.due("call 502", x.boat(0, 309, 5000), 0);
        Check.due("call 503", x.time(240), 0);
        Check.due("call 504", x.call(0), 1);
        for (int call = 505; call < 512; call++) {
            Check.due("call " + call, x.call(0), STATE);
        }
        Check.due("call 512", x.time(6), 1);
    }
}
