/** The edges that the document names of cells, boats, winds and kinds, and by promises 1 to 4: one test for each sentence. */
public final class LakeEdgesTest {
    private static final int BAD = -2, FULL = -4, NONE = -1;
    private static final int LOW = Integer.MIN_VALUE, HIGH = Integer.MAX_VALUE;

    public static void main(String[] args) {
        cellsAre0To47();
        theStageIsCell0();
        farIsByRowsAndColumns();
        farIsBetweenAnyTwoCells();
        theIslandIs27AtFirst();
        hiddenAreCellsBehindTheIsland();
        nothingIsHiddenByAnIslandAtTheEdge();
        boatsAreSevenAtMost();
        kindsAre0To5();
        numbersAre0To9();
        outIs0To999();
        paidIs5To240();
        boatsAreOnTheLakeAtFirst();
        windIs0To9();
        theMinuteIs0AtFirst();
        theMinuteIs9999AtMost();
        towsAre1To6();
        speedIs1To9();
        waitingAre0To20();
        rowsByCutHalves();
        rowsAre1AtLeast();
        hearsByTheWind();
        hearsAre0AtLeast();
        loversHearByTheirNumber();
        owesForQuartersBegun();
        owesOfKinds();
        owesWhereABoatOwesNothing();
        aNewObjectHasNoBoats();
        boatIsBadAheadOfFull();
        boatTakesItsNumbersApart();
        setAnswersWhatItWas();
        setOfTheLakeIsOfNoBoat();
        setOfABoatIsOfThatOneAlone();
        setRefuses();
        toldHasElevenAnswers();
        toldTellsAMinuteOrNone();
        toldRefuses();
        Check.end();
    }

    private static void bounds(String what, BoatsCalledIn x, int sort, int least, int most) {
        int was = x.set(sort, 0, least);
        Check.due(what + " " + least, x.set(sort, 0, most), least);
        int[] bad = {least - 1, most + 1, least - 1000, most + 1000, LOW, HIGH};
        for (int v : bad) {
            Check.due(what + " " + v, x.set(sort, 0, v), BAD);
        }
        Check.due(what + " " + most + ", after wrong ones", x.set(sort, 0, was), most);
    }

    /** How far the cell of boat 0, a BOAT by no wind and a willing rule, is: half of the minutes that it needs. */
    private static int far(BoatsCalledIn x) {
        x.image();
        x.call(0);
        int far = (x.told(0, 6) - x.count(4)) / 2;
        x.back();
        return far;
    }

    // CELLS (y, x), y 0 .. 5, x 0 .. 7, as numbers 8 times y, and x
    private static void cellsAre0To47() {
        BoatsCalledIn x = new BoatsCalledIn();
        Check.due("boat in cell -1", x.boat(0, -100, 5000), BAD);
        Check.due("boat in cell 48", x.boat(0, 4800, 5000), BAD);
        Check.due("boat in cell 48, number 9", x.boat(0, 4809, 5000), BAD);
        Check.due("boat in cell 0", x.boat(0, 0, 5000), 0);
        Check.due("boat in cell 47", x.boat(0, 4700, 5000), 1);
        bounds("a cell", x, 0, 0, 47);
        bounds("the island", x, 4, 0, 47);
        for (int cell = 0; cell < 48; cell++) {
            x.set(0, 1, cell);
            Check.due("in cell " + cell, x.told(1, 0), cell);
        }
    }

    // the STAGE is CELL 0
    private static void theStageIsCell0() {
        BoatsCalledIn x = Check.willing(1);
        Check.boat(x, 5, 1, 0, 0, 5);
        Check.boat(x, 5, 1, 1, 0, 5);
        Check.boat(x, 5, 1, 8, 0, 5);
        x.set(5, 0, 9);
        Check.due("who hears nothing comes from the stage alone", x.nobody(), 6);
        x.call(0);
        Check.due("it needs no minutes from there", x.told(0, 6), 0);
        Check.due("nothing but the stage's cell", x.where(0, 0), 1);
    }

    // FAR from one CELL to another: how far y and x are apart, together
    private static void farIsByRowsAndColumns() {
        BoatsCalledIn x = Check.willing(1);
        Check.boat(x, 0, 0, 0, 0, 5);
        for (int y = 0; y < 6; y++) {
            for (int column = 0; column < 8; column++) {
                x.set(0, 0, 8 * y + column);
                Check.due("far is cell " + (8 * y + column), far(x), y + column);
            }
        }
    }

    // FAR from one CELL to another: not from the STAGE alone, in any direction
    private static void farIsBetweenAnyTwoCells() {
        int[][] cells = {{7, 40, 12}, {40, 7, 12}, {7, 8, 8}, {47, 0, 12}, {9, 18, 2}, {18, 9, 2}, {11, 18, 2}, {18, 11, 2},
            {15, 16, 8}, {31, 47, 2}, {20, 20, 0}};
        for (int[] c : cells) {
            BoatsCalledIn x = Check.willing(1);
            Check.boat(x, 0, 0, c[0], 0, 5);
            Check.boat(x, 0, 0, c[1], 0, 5);
            int one = c[0] / 8 + c[0] % 8;
            int other = c[1] / 8 + c[1] % 8;
            int fewest = Math.min(one + 3 * other, other + 3 * one) + 2 * c[2];
            Check.due("from " + c[0] + " to " + c[1], x.fetch(3, 0), fewest);
        }
    }

    // THE ISLAND is a CELL (27 at first)
    private static void theIslandIs27AtFirst() {
        BoatsCalledIn x = new BoatsCalledIn();
        Check.due("the island at first", x.set(4, 0, 27), 27);
        Check.due("the island", x.set(4, 0, 0), 27);
        Check.due("the island at the stage", x.set(4, 0, 47), 0);
    }

    // HIDDEN: CELLS of THE ISLAND's y, and a greater x
    private static void hiddenAreCellsBehindTheIsland() {
        BoatsCalledIn x = new BoatsCalledIn();
        Check.rule(x, "1", "1", "hid");
        Check.boat(x, 1, 9, 0, 0, 5);
        int[] islands = {27, 0, 8, 14, 46, 21};
        for (int island : islands) {
            x.set(4, 0, island);
            for (int y = 0; y < 6; y++) {
                int hidden = y == island / 8 ? 0xff & -2 << island % 8 : 0;
                Check.due("hidden by " + island + " in row " + y, x.where(0, y), hidden);
            }
        }
        x.set(4, 0, 27);
        int[] hid = {0, 1, 0, 0, 0};
        int[] cells = {27, 28, 26, 36, 20};
        for (int i = 0; i < 5; i++) {
            x.set(0, 0, cells[i]);
            Check.due("hidden is cell " + cells[i], x.told(0, 9), hid[i]);
        }
    }

    // HIDDEN: .. a greater x: there is none behind the last one
    private static void nothingIsHiddenByAnIslandAtTheEdge() {
        BoatsCalledIn x = new BoatsCalledIn();
        Check.rule(x, "1", "1", "hid");
        Check.boat(x, 1, 9, 0, 0, 5);
        for (int island = 7; island < 48; island += 8) {
            x.set(4, 0, island);
            for (int y = 0; y < 6; y++) {
                Check.due("hidden by " + island + " in row " + y, x.where(0, y), 0);
            }
        }
    }

    // BOATS (7 at most, numbered from 0)
    private static void boatsAreSevenAtMost() {
        BoatsCalledIn x = new BoatsCalledIn();
        for (int i = 0; i < 7; i++) {
            Check.due("told of " + i + " ahead", x.told(i, 0), BAD);
            Check.due("number", x.boat(i % 6, 100 * i, 5000), i);
        }
        String before = Check.seen(x);
        Check.due("the eighth", x.boat(0, 0, 5000), FULL);
        Check.due("the eighth again", x.boat(5, 4709, 240999), FULL);
        Check.due("told of the eighth", x.told(7, 0), BAD);
        Check.unchanged("an eighth", before, x);
        for (int i = 0; i < 7; i++) {
            Check.due("cell of " + i, x.told(i, 0), i);
        }
    }

    // have a KIND: 0 BOAT .. 5 LOVERS
    private static void kindsAre0To5() {
        BoatsCalledIn x = new BoatsCalledIn();
        int[] bad = {-1, 6, 7, LOW, HIGH};
        for (int kind : bad) {
            Check.due("kind " + kind, x.boat(kind, 0, 5000), BAD);
        }
        for (int kind = 0; kind < 6; kind++) {
            Check.due("of kind " + kind, x.boat(kind, 0, 5000), kind);
            Check.due("kind " + kind, x.told(kind, 4), kind);
        }
    }

    // a NUMBER (0 .. 9)
    private static void numbersAre0To9() {
        BoatsCalledIn x = new BoatsCalledIn();
        int[] bad = {-1, 10, 11, 99, 110, 199, 4710, 4799};
        for (int what : bad) {
            Check.due("boat with " + what, x.boat(0, what, 5000), BAD);
        }
        Check.due("number 0", x.boat(0, 100, 5000), 0);
        Check.due("number 9", x.boat(0, 109, 5000), 1);
        Check.due("told 0", x.told(0, 3), 0);
        Check.due("told 9", x.told(1, 3), 9);
        bounds("a number", x, 3, 0, 9);
    }

    // OUT (the minute it went, 0 .. 999)
    private static void outIs0To999() {
        BoatsCalledIn x = new BoatsCalledIn();
        Check.due("out at 0", x.boat(0, 0, 5000), 0);
        Check.due("out at 999", x.boat(0, 0, 5999), 1);
        Check.due("told 0", x.told(0, 1), 0);
        Check.due("told 999", x.told(1, 1), 999);
        Check.due("paid is told by itself", x.told(1, 2), 5);
        bounds("out", x, 1, 0, 999);
    }

    // PAID (5 .. 240 minutes)
    private static void paidIs5To240() {
        BoatsCalledIn x = new BoatsCalledIn();
        int[] bad = {-5000, -1, 0, 999, 4000, 4999, 241000, 241999, LOW, HIGH};
        for (int time : bad) {
            Check.due("boat with " + time, x.boat(0, 0, time), BAD);
        }
        Check.due("paid for 5", x.boat(0, 0, 5000), 0);
        Check.due("paid for 240", x.boat(0, 0, 240999), 1);
        Check.due("told 5", x.told(0, 2), 5);
        Check.due("told 240", x.told(1, 2), 240);
        bounds("paid", x, 2, 5, 240);
    }

    // Each is ON THE LAKE (at first), COMING .., or IN
    private static void boatsAreOnTheLakeAtFirst() {
        BoatsCalledIn x = Check.willing(1);
        Check.boat(x, 0, 0, 0, 0, 5);
        Check.due("on the lake", x.told(0, 5), 0);
        x.time(240);
        Check.due("on the lake yet", x.told(0, 5), 0);
        x.call(0);
        Check.due("coming", x.told(0, 5), 1);
        x.time(0);
        Check.due("in", x.told(0, 5), 2);
    }

    // WIND (0 .. 9; 0 at first)
    private static void windIs0To9() {
        BoatsCalledIn x = new BoatsCalledIn();
        Check.due("wind at first", x.set(5, 0, 0), 0);
        bounds("wind", x, 5, 0, 9);
    }

    // THE MINUTE (.. 0 at first)
    private static void theMinuteIs0AtFirst() {
        BoatsCalledIn x = Check.willing(1);
        Check.due("the minute", x.count(4), 0);
        Check.boat(x, 0, 0, 0, 0, 5);
        x.call(0);
        Check.due("in now", x.told(0, 6), 0);
    }

    // THE MINUTE (0 .. 9999 ..)
    private static void theMinuteIs9999AtMost() {
        BoatsCalledIn x = new BoatsCalledIn();
        Check.pass(x, 9998);
        Check.due("9998", x.count(4), 9998);
        x.time(1);
        Check.due("9999", x.count(4), 9999);
        x.time(1);
        Check.due("9999 again", x.count(4), 9999);
        x.time(240);
        Check.due("9999 for good", x.count(4), 9999);
    }

    // The LAUNCH TOWS so many BOATS (1 .. 6; 2 at first)
    private static void towsAre1To6() {
        BoatsCalledIn x = new BoatsCalledIn();
        Check.due("tows at first", x.set(6, 0, 2), 2);
        bounds("tows", x, 6, 1, 6);
        for (int i = 0; i < 7; i++) {
            Check.boat(x, 0, 0, 1, 0, 5);
        }
        // out 1, home 1 and 1 for each that it tows
        int[] minutes = {21, 3 * 4 + 3, 4 + 1 + 4 + 1 + 3, 6 + 5, 7 + 4, 8 + 3};
        for (int tows = 1; tows <= 6; tows++) {
            x.set(6, 0, tows);
            Check.due("seven by a launch that tows " + tows, x.fetch(127, 0), minutes[tows - 1]);
        }
    }

    // SPEED: its minutes for a CELL (1 .. 9; 1 at first)
    private static void speedIs1To9() {
        BoatsCalledIn x = new BoatsCalledIn();
        Check.due("speed at first", x.set(7, 0, 1), 1);
        bounds("speed", x, 7, 1, 9);
        Check.boat(x, 0, 0, 47, 0, 5);
        for (int speed = 1; speed <= 9; speed++) {
            x.set(7, 0, speed);
            Check.due("the farthest by speed " + speed, x.fetch(1, 0), 24 * speed + 12);
        }
    }

    // WAITING: so many people (0 .. 20; 0 at first)
    private static void waitingAre0To20() {
        BoatsCalledIn x = new BoatsCalledIn();
        Check.due("waiting at first", x.count(6), 0);
        bounds("waiting", x, 8, 0, 20);
        x.set(8, 0, 20);
        Check.due("waiting", x.count(6), 20);
        Check.due("240 for each of the most", x.stand(), 4800);
    }

    private static BoatsCalledIn kinds(int number) {
        BoatsCalledIn x = Check.willing(7);
        for (int kind = 0; kind < 6; kind++) {
            Check.boat(x, kind, number, 10, 10, 20);
        }
        return x;
    }

    // ROWS: BOAT: 2, and half (cut) of w; .. LOVERS: twice a BOAT's
    private static void rowsByCutHalves() {
        BoatsCalledIn x = kinds(9);
        for (int wind = 0; wind < 10; wind++) {
            x.set(5, 0, wind);
            int boat = wind < 2 ? 2 : wind < 4 ? 3 : wind < 6 ? 4 : wind < 8 ? 5 : 6;
            int[] rows = {boat, boat - 1, boat + wind, boat + 8, boat + wind, boat + boat};
            for (int kind = 0; kind < 6; kind++) {
                Check.due("rows of kind " + kind + " by wind " + wind, x.told(kind, 7), rows[kind]);
            }
        }
    }

    // ROWS 1 at least
    private static void rowsAre1AtLeast() {
        BoatsCalledIn x = kinds(0);
        Check.due("a skiff by no wind", x.told(1, 7), 1);
        Check.due("a leaky one of number 0 by no wind", x.told(3, 7), 1);
        x.set(3, 3, 1);
        Check.due("a leaky one of number 1 by no wind", x.told(3, 7), 2);
        x.set(5, 0, 1);
        Check.due("a skiff by wind 1", x.told(1, 7), 1);
        x.set(5, 0, 2);
        Check.due("a skiff by wind 2", x.told(1, 7), 2);
        x.set(5, 0, 0);
        x.call(1);
        Check.due("a skiff needs a minute for a cell", x.told(1, 6), 3);
    }

    // HEARS: BOAT: 12 less w; .. DEAF: half (cut) of a PUNT's
    private static void hearsByTheWind() {
        BoatsCalledIn x = kinds(4);
        int[] deaf = {4, 4, 3, 3, 2, 2, 1, 1, 0, 0};
        for (int wind = 0; wind < 10; wind++) {
            x.set(5, 0, wind);
            int[] hears = {12 - wind, 16 - wind, 9 - wind, 16 - wind, deaf[wind], 12 - wind};
            for (int kind = 0; kind < 6; kind++) {
                Check.due("hears of kind " + kind + " by wind " + wind, x.told(kind, 8), hears[kind]);
            }
        }
    }

    // HEARS .. 0 at least
    private static void hearsAre0AtLeast() {
        BoatsCalledIn x = kinds(9);
        x.set(5, 0, 9);
        int[] hears = {3, 12, 0, 12, 0, 0};
        for (int kind = 0; kind < 6; kind++) {
            Check.due("hears of kind " + kind + " by the most wind", x.told(kind, 8), hears[kind]);
            x.set(0, kind, 0);
            Check.due("at the stage all hear, kind " + kind, x.told(kind, 9), 1);
            x.set(0, kind, 1);
            Check.due("one farther, kind " + kind, x.told(kind, 9), hears[kind] > 0 ? 1 : 0);
        }
    }

    // LOVERS: 0, if NUMBER is odd, else as a BOAT
    private static void loversHearByTheirNumber() {
        BoatsCalledIn x = kinds(0);
        for (int number = 0; number < 10; number++) {
            x.set(3, 5, number);
            Check.due("lovers of number " + number, x.told(5, 8), number % 2 == 1 ? 0 : 12);
        }
        x.set(5, 0, 3);
        x.set(3, 5, 8);
        Check.due("lovers by wind 3", x.told(5, 8), 9);
    }

    // BOAT: price for each 15 minutes begun (for m minutes behind DUE; 0 at least)
    private static void owesForQuartersBegun() {
        BoatsCalledIn x = Check.willing(7);
        Check.boat(x, 0, 0, 10, 10, 20);
        Check.boat(x, 1, 9, 10, 10, 20);
        int[] minutes = {0, 29, 30, 31, 44, 45, 46, 59, 60, 61, 270, 271};
        int[] quarters = {0, 0, 0, 1, 1, 1, 2, 2, 2, 3, 16, 17};
        for (int i = 0; i < minutes.length; i++) {
            x.time(minutes[i] - x.count(4));
            Check.due("a boat in minute " + minutes[i], x.told(0, 10), 7 * quarters[i]);
            Check.due("a skiff in minute " + minutes[i], x.told(1, 10), 7 * quarters[i]);
        }
    }

    // PUNT: half (cut) of a BOAT's; LEAKY: 0; DEAF: a PUNT's, and 2; LOVERS: NUMBER more than a BOAT
    private static void owesOfKinds() {
        BoatsCalledIn x = kinds(9);
        x.time(31);
        int[] one = {7, 7, 3, 0, 5, 16};
        int[] two = {14, 14, 7, 0, 9, 23};
        int[] three = {21, 21, 10, 0, 12, 30};
        int[][] owed = {one, two, three};
        for (int i = 0; i < 3; i++) {
            for (int kind = 0; kind < 6; kind++) {
                Check.due("kind " + kind + " for " + (i + 1) + " quarters", x.told(kind, 10), owed[i][kind]);
            }
            x.time(15);
        }
        x.set(3, 5, 0);
        Check.due("lovers of number 0", x.told(5, 10), x.told(0, 10));
    }

    // LOVERS: .. if a BOAT would OWE anything, else 0; DEAF: .. and 2; OWES 0 at least
    private static void owesWhereABoatOwesNothing() {
        BoatsCalledIn x = kinds(9);
        int[] owed = {0, 0, 0, 0, 2, 0};
        x.time(30);
        for (int kind = 0; kind < 6; kind++) {
            Check.due("kind " + kind + ", due just now", x.told(kind, 10), owed[kind]);
        }
        x.time(1);
        Check.due("lovers a minute behind", x.told(5, 10), 16);
        Check.rule(x, "0", "1", "1");
        for (int kind = 0; kind < 6; kind++) {
            Check.due("kind " + kind + ", behind, for nothing", x.told(kind, 10), owed[kind]);
        }
        Check.rule(x, "1", "1", "1");
        int[] little = {1, 1, 0, 0, 2, 10};
        for (int kind = 0; kind < 6; kind++) {
            Check.due("kind " + kind + ", behind, for 1", x.told(kind, 10), little[kind]);
        }
    }

    // BoatsCalledIn(): No BOATS
    private static void aNewObjectHasNoBoats() {
        BoatsCalledIn x = new BoatsCalledIn();
        Check.due("boats", x.count(0), 0);
        Check.due("told", x.told(0, 0), BAD);
        Check.due("set", x.set(0, 0, 0), BAD);
        Check.due("call", x.call(0), BAD);
        Check.due("callAt", x.callAt(0), BAD);
        Check.due("where", x.where(0, 0), BAD);
        Check.due("fetch one", x.fetch(1, 0), BAD);
        Check.due("launch one", x.launch(1), BAD);
        Check.due("taken", x.taken(0, 0), -11);
        BoatsCalledIn y = new BoatsCalledIn();
        y.boat(0, 0, 5000);
        Check.due("another object's boat is its own", x.count(0), 0);
    }

    // BAD; FULL
    private static void boatIsBadAheadOfFull() {
        BoatsCalledIn x = new BoatsCalledIn();
        for (int i = 0; i < 7; i++) {
            Check.due("boat", x.boat(0, 0, 5000), i);
        }
        int[][] bad = {{-1, 0, 5000}, {6, 0, 5000}, {0, -1, 5000}, {0, 10, 5000}, {0, 4800, 5000}, {0, 0, 4999},
            {0, 0, 241000}, {0, 0, -1}};
        for (int[] b : bad) {
            Check.due("boat(" + b[0] + ", " + b[1] + ", " + b[2] + ")", x.boat(b[0], b[1], b[2]), BAD);
        }
        Check.due("a good one", x.boat(0, 0, 5000), FULL);
    }

    // what: 100 times CELL, and NUMBER; time: 1000 times PAID, and OUT
    private static void boatTakesItsNumbersApart() {
        int[][] made = {{0, 5000, 0, 0, 5, 0}, {9, 5999, 0, 9, 5, 999}, {100, 6000, 1, 0, 6, 0}, {4709, 240999, 47, 9, 240, 999},
            {909, 99099, 9, 9, 99, 99}, {4000, 100000, 40, 0, 100, 0}, {1001, 10001, 10, 1, 10, 1}};
        BoatsCalledIn x = new BoatsCalledIn();
        for (int boat = 0; boat < made.length; boat++) {
            int[] m = made[boat];
            Check.due("boat", x.boat(0, m[0], m[1]), boat);
            Check.due("cell by " + m[0], x.told(boat, 0), m[2]);
            Check.due("number by " + m[0], x.told(boat, 3), m[3]);
            Check.due("paid by " + m[1], x.told(boat, 2), m[4]);
            Check.due("out by " + m[1], x.told(boat, 1), m[5]);
        }
        int[] wrapping = {HIGH, LOW, -4709, 4294967 * 100};
        for (int what : wrapping) {
            BoatsCalledIn y = new BoatsCalledIn();
            Check.due("boat with " + what, y.boat(0, what, 5000), BAD);
            Check.due("boat with time " + what, y.boat(0, 0, what), BAD);
        }
    }

    // becomes v: what it was
    private static void setAnswersWhatItWas() {
        BoatsCalledIn x = new BoatsCalledIn();
        Check.boat(x, 0, 3, 12, 100, 40);
        int[] first = {12, 100, 40, 3, 27, 0, 2, 1, 0};
        int[] next = {47, 999, 240, 9, 47, 9, 6, 9, 20};
        for (int what = 0; what < 9; what++) {
            Check.due("set " + what, x.set(what, 0, next[what]), first[what]);
            Check.due("set " + what + " to the same", x.set(what, 0, next[what]), next[what]);
            Check.due("set " + what + " back", x.set(what, 0, first[what]), next[what]);
            Check.due("set " + what + " again", x.set(what, 0, first[what]), first[what]);
        }
    }

    // by 4 .. 8 of does not matter
    private static void setOfTheLakeIsOfNoBoat() {
        int[] any = {-1, 0, 6, 7, LOW, HIGH};
        for (int of : any) {
            BoatsCalledIn x = new BoatsCalledIn();
            int[] first = {27, 0, 2, 1, 0};
            for (int what = 4; what < 9; what++) {
                Check.due("set " + what + " of " + of, x.set(what, of, 6), first[what - 4]);
                Check.due("set " + what + " of " + of + " again", x.set(what, of, 5), 6);
            }
        }
    }

    // CELL (what 0), OUT (1), PAID (2), NUMBER (3) of a BOAT
    private static void setOfABoatIsOfThatOneAlone() {
        BoatsCalledIn x = new BoatsCalledIn();
        Check.boat(x, 0, 3, 12, 100, 40);
        Check.boat(x, 0, 4, 13, 101, 41);
        Check.boat(x, 0, 5, 14, 102, 42);
        int[] middle = {13, 101, 41, 4};
        for (int what = 0; what < 4; what++) {
            Check.due("set " + what + " of 1", x.set(what, 1, 9), middle[what]);
            Check.due("set " + what + " of 3", x.set(what, 3, 9), BAD);
            Check.due("set " + what + " of -1", x.set(what, -1, 9), BAD);
            Check.due("set " + what + " of 2147483647", x.set(what, HIGH, 9), BAD);
        }
        int[][] told = {{12, 100, 40, 3}, {9, 9, 9, 9}, {14, 102, 42, 5}};
        for (int boat = 0; boat < 3; boat++) {
            for (int what = 0; what < 4; what++) {
                Check.due("told " + what + " of " + boat, x.told(boat, what), told[boat][what]);
            }
        }
    }

    // set: BAD (they change nothing)
    private static void setRefuses() {
        BoatsCalledIn x = Check.willing(1);
        Check.boat(x, 0, 5, 12, 100, 40);
        String before = Check.seen(x);
        int[] no = {-1, 9, 10, 11, LOW, HIGH};
        for (int what : no) {
            Check.due("set " + what, x.set(what, 0, 5), BAD);
        }
        int[] least = {0, 0, 5, 0, 0, 0, 1, 1, 0};
        int[] most = {47, 999, 240, 9, 47, 9, 6, 9, 20};
        for (int what = 0; what < 9; what++) {
            Check.due("set " + what + " too low", x.set(what, 0, least[what] - 1), BAD);
            Check.due("set " + what + " too high", x.set(what, 0, most[what] + 1), BAD);
            Check.due("set " + what + " of another, too high", x.set(what, 1, most[what] + 1), BAD);
        }
        Check.unchanged("refused sets", before, x);
    }

    // 0 CELL, 1 OUT, .. 10 what it would OWE, were it IN now
    private static void toldHasElevenAnswers() {
        BoatsCalledIn x = Check.willing(4);
        Check.boat(x, 2, 6, 19, 3, 8);
        x.set(5, 0, 3);
        x.time(27);
        int[] told = {19, 3, 8, 6, 2, 0, NONE, 6, 6, 1, 4};
        for (int what = 0; what <= 10; what++) {
            Check.due("told " + what, x.told(0, what), told[what]);
        }
        x.set(5, 0, 5);
        Check.due("it would come by this wind no more", x.told(0, 9), 0);
    }

    // 6 the minute in which it will be, or was, IN (NONE)
    private static void toldTellsAMinuteOrNone() {
        BoatsCalledIn x = Check.willing(1);
        Check.boat(x, 0, 0, 0, 0, 5);
        Check.boat(x, 0, 0, 2, 0, 5);
        Check.boat(x, 4, 0, 47, 0, 5);
        Check.due("on the lake", x.told(0, 6), NONE);
        x.call(0);
        x.call(1);
        x.call(2);
        Check.due("now", x.told(0, 6), 0);
        Check.due("in 4", x.told(1, 6), 4);
        Check.due("it didn't come", x.told(2, 6), NONE);
        x.time(240);
        Check.due("it was in at 0", x.told(0, 6), 0);
        Check.due("it was in at 4", x.told(1, 6), 4);
        Check.due("it is on the lake yet", x.told(2, 6), NONE);
    }

    // told: BAD
    private static void toldRefuses() {
        BoatsCalledIn x = new BoatsCalledIn();
        Check.boat(x, 0, 0, 0, 0, 5);
        Check.boat(x, 0, 0, 0, 0, 5);
        int[] none = {-1, 2, 6, 7, LOW, HIGH};
        for (int boat : none) {
            for (int what = -1; what < 12; what++) {
                Check.due("told(" + boat + ", " + what + ")", x.told(boat, what), BAD);
            }
        }
        int[] bad = {-1, 11, 12, LOW, HIGH};
        for (int what : bad) {
            Check.due("told(1, " + what + ")", x.told(1, what), BAD);
        }
    }
}
