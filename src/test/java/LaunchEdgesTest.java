/** The edges that the document names of the launch and of thunder, and by promises 13 to 17: one test for each sentence. */
public final class LaunchEdgesTest {
    private static final int BAD = -2, NONE = -1;
    private static final int LOW = Integer.MIN_VALUE, HIGH = Integer.MAX_VALUE;

    public static void main(String[] args) {
        fetchOfNone();
        fetchOfOne();
        fetchAtTheStage();
        untilItTowsAsManyAsItMay();
        orHasAll();
        oneMoreForEachThatItTows();
        speedForEachCell();
        fewestOfAllOrders();
        ofLikeOnesTheFirst();
        ofLikeOnesTheNextOneToo();
        fetchTellsWhichIsFetchedAsWhich();
        fetchBehindTheLastOne();
        fetchOfAllSeven();
        fetchOfTheMostMinutes();
        fetchRefusesItsSet();
        fetchRefusesWhat();
        fetchChangesNothing();
        launchPassesTheMinutes();
        launchMayTakeMoreThan240();
        launchBringsOthersInAheadOfThese();
        launchBringsTheseInAtTheMinute();
        launchOfNone();
        launchUpToTheLastMinute();
        launchTakesWhatTheyOwe();
        launchRefuses();
        oneOfNone();
        oneIsTheFirstOfLikeOnes();
        oneIsOnTheLake();
        oneBySpeed();
        oneRefuses();
        thunderIn0Minutes();
        thunderIn240Minutes();
        thunderIsInByThen();
        thunderTellsThoseThatAreIn();
        thunderOfThoseComing();
        thunderMoreOfNobody();
        thunderMoreInNoMoreThanN();
        thunderMoreOfAnySet();
        thunderMoreOfNone();
        thunderRefuses();
        thunderChangesNothing();
        standOfNoneWaiting();
        standFor240Each();
        standInOrder();
        standOfThoseComing();
        standOfThoseIn();
        standOfTheMostWaiting();
        standChangesNothing();
        Check.end();
    }

    /** Boats that nobody calls in for long, one in each of these cells. */
    private static BoatsCalledIn lake(int... cells) {
        BoatsCalledIn x = new BoatsCalledIn();
        for (int cell : cells) {
            Check.boat(x, 0, 0, cell, 999, 240);
        }
        return x;
    }

    private static void launchOf(BoatsCalledIn x, int tows, int speed) {
        x.set(6, 0, tows);
        x.set(7, 0, speed);
    }

    private static void order(BoatsCalledIn x, int set, int minutes, int... order) {
        Check.due("fetch(" + set + ", 0)", x.fetch(set, 0), minutes);
        for (int number = 1; number <= 7; number++) {
            int want = number <= order.length ? order[number - 1] : NONE;
            Check.due("fetch(" + set + ", " + number + ")", x.fetch(set, number), want);
        }
    }

    // FETCH some BOATS (bits): of none
    private static void fetchOfNone() {
        order(new BoatsCalledIn(), 0, 0);
        BoatsCalledIn x = lake(47, 9);
        order(x, 0, 0);
        launchOf(x, 6, 9);
        order(x, 0, 0);
    }

    // .. of one: out to it, and back to the STAGE
    private static void fetchOfOne() {
        BoatsCalledIn x = lake(1, 8, 47, 7);
        order(x, 1, 1 + 2, 0);
        order(x, 2, 1 + 2, 1);
        order(x, 4, 12 + 24, 2);
        order(x, 8, 7 + 14, 3);
    }

    // from the STAGE .. back to the STAGE: a BOAT that is there takes no minutes
    private static void fetchAtTheStage() {
        order(lake(0), 1, 0, 0);
        order(lake(0, 0, 0), 7, 0, 0, 1, 2);
        // out to the far one first, and the one at the stage behind it
        order(lake(0, 3), 3, 9, 1, 0);
        BoatsCalledIn x = lake(0, 3);
        launchOf(x, 1, 1);
        order(x, 3, 9, 0, 1);
        BoatsCalledIn y = lake(3, 0);
        order(y, 3, 9, 0, 1);
        BoatsCalledIn z = lake(0, 3);
        launchOf(z, 6, 9);
        order(z, 3, 57, 1, 0);
    }

    // until it TOWS as many as it may .. back to the STAGE, and out again
    private static void untilItTowsAsManyAsItMay() {
        BoatsCalledIn x = lake(4, 4, 4, 4, 4);
        int[] minutes = {60, 2 * (4 + 12) + 12, 4 + 16 + 4 + 12, 4 + 20 + 12, 4 + 24, 28};
        for (int tows = 1; tows <= 6; tows++) {
            launchOf(x, tows, 1);
            Check.due("five by a launch that tows " + tows, x.fetch(31, 0), minutes[tows - 1]);
        }
    }

    // .. or has all
    private static void orHasAll() {
        BoatsCalledIn x = lake(4, 4, 4, 4, 4);
        launchOf(x, 6, 1);
        order(x, 3, 4 + 12, 0, 1);
        order(x, 31, 4 + 24, 0, 1, 2, 3, 4);
        launchOf(x, 3, 1);
        // a full way and one with the fourth alone
        order(x, 15, 4 + 16 + 4 + 8, 0, 1, 2, 3);
    }

    // for each CELL it takes SPEED minutes, and 1 more for each BOAT that it TOWS by then
    private static void oneMoreForEachThatItTows() {
        BoatsCalledIn x = lake(1, 2, 3, 4);
        launchOf(x, 6, 1);
        // out 4, then a cell with 1, 2, 3 and home with 4 boats
        order(x, 15, 4 + 2 + 3 + 4 + 5, 3, 2, 1, 0);
        launchOf(x, 6, 9);
        order(x, 15, 4 * 9 + 10 + 11 + 12 + 13, 3, 2, 1, 0);
        launchOf(x, 2, 1);
        order(x, 15, (2 + 2 + 3) + (4 + 2 + 9), 1, 0, 3, 2);
    }

    // SPEED minutes for each CELL
    private static void speedForEachCell() {
        BoatsCalledIn x = lake(47, 7);
        for (int speed = 1; speed <= 9; speed++) {
            launchOf(x, 1, speed);
            Check.due("far by speed " + speed, x.fetch(1, 0), 12 * speed + 12 * (speed + 1));
            Check.due("both by speed " + speed, x.fetch(3, 0), 19 * speed + 19 * (speed + 1));
        }
    }

    // Of all orders that by which it takes fewest minutes
    private static void fewestOfAllOrders() {
        int[] cells = {3, 24, 4, 32};
        BoatsCalledIn x = lake(cells);
        // two by two along the sides: 4, a cell with 1, 3 with 2
        order(x, 15, 2 * (4 + 2 + 9), 2, 0, 3, 1);
        int[] speeds = {1, 2, 5, 9};
        for (int speed : speeds) {
            for (int tows = 1; tows <= 6; tows++) {
                launchOf(x, tows, speed);
                Check.due("by " + tows + ", " + speed, x.fetch(15, 0), best(cells, tows, speed));
            }
        }
    }

    /** The fewest minutes for four cells by all orders, step by step. */
    private static int best(int[] cells, int tows, int speed) {
        int fewest = HIGH;
        for (int order = 0; order < 256; order++) {
            int[] boats = {order & 3, order >> 2 & 3, order >> 4 & 3, order >> 6};
            int met = 1 << boats[0] | 1 << boats[1] | 1 << boats[2] | 1 << boats[3];
            if (met == 15) {
                fewest = Math.min(fewest, minutes(cells, boats, tows, speed));
            }
        }
        return fewest;
    }

    private static int minutes(int[] cells, int[] boats, int tows, int speed) {
        int at = 0;
        int towed = 0;
        int minutes = 0;
        for (int i = 0; i < boats.length; i++) {
            int cell = cells[boats[i]];
            minutes += far(at, cell) * (speed + towed);
            at = cell;
            towed++;
            if (towed == tows || i == boats.length - 1) {
                minutes += far(at, 0) * (speed + towed);
                at = 0;
                towed = 0;
            }
        }
        return minutes;
    }

    private static int far(int from, int to) {
        return Math.abs(from / 8 - to / 8) + Math.abs(from % 8 - to % 8);
    }

    // of like ones the first (by the BOAT fetched first ..)
    private static void ofLikeOnesTheFirst() {
        order(lake(9, 9), 3, 2 + 6, 0, 1);
        order(lake(2, 16), 3, 2 + 8 + 6, 0, 1);
        order(lake(16, 2), 3, 2 + 8 + 6, 0, 1);
        BoatsCalledIn x = lake(7, 3, 5);
        launchOf(x, 1, 1);
        order(x, 7, 45, 0, 1, 2);
        order(x, 6, 24, 1, 2);
        order(lake(9, 9, 9, 9, 9, 9, 9), 124, 8 + 8 + 6, 2, 3, 4, 5, 6);
    }

    // .. then the next one, ..
    private static void ofLikeOnesTheNextOneToo() {
        BoatsCalledIn x = lake(5, 9, 9, 9);
        launchOf(x, 2, 1);
        // which two go together matters, their order and that of the ways doesn't
        order(x, 14, 8 + 6, 1, 2, 3);
        launchOf(x, 6, 1);
        order(x, 14, 2 + 8, 1, 2, 3);
        order(lake(16, 2, 2, 16), 15, 2 * 8, 0, 3, 1, 2);
        order(lake(2, 16, 2, 16), 15, 2 * 8, 0, 2, 1, 3);
        order(lake(16, 16, 2, 2), 15, 2 * 8, 0, 1, 2, 3);
    }

    // which BOAT is fetched as which: the BOAT fetched as number what less 1 (1 .. 7 ..)
    private static void fetchTellsWhichIsFetchedAsWhich() {
        BoatsCalledIn x = lake(1, 2, 3, 4, 5, 6, 7);
        launchOf(x, 6, 9);
        order(x, 126, 7 * 9 + 10 + 11 + 12 + 13 + 14 + 2 * 15, 6, 5, 4, 3, 2, 1);
        order(x, 85, 7 * 9 + 20 + 22 + 24 + 13, 6, 4, 2, 0);
        Check.due("the first of some, asked for at once", x.fetch(42, 1), 5);
        Check.due("the third of some others", x.fetch(28, 3), 2);
        BoatsCalledIn y = lake(1, 2, 3);
        Check.due("the second of three, asked for at once", y.fetch(7, 2), 1);
        Check.due("the last of three", y.fetch(7, 3), 0);
        order(y, 7, (3 + 2 + 6) + (1 + 2), 2, 1, 0);
    }

    // (1 .. 7; NONE)
    private static void fetchBehindTheLastOne() {
        BoatsCalledIn x = lake(1, 2);
        Check.due("the first of one", x.fetch(2, 1), 1);
        for (int number = 2; number <= 7; number++) {
            Check.due("number " + number + " of one", x.fetch(2, number), NONE);
            Check.due("number " + number + " of none", x.fetch(0, number), NONE);
        }
        Check.due("the first of none", x.fetch(0, 1), NONE);
    }

    // FETCH of as many as there may be
    private static void fetchOfAllSeven() {
        BoatsCalledIn x = lake(7, 6, 5, 4, 3, 2, 1);
        order(x, 127, (7 + 2 + 18) + (5 + 2 + 12) + (3 + 2 + 6) + (1 + 2), 0, 1, 2, 3, 4, 5, 6);
        order(x, 125, (7 + 4 + 15) + (4 + 2 + 9) + (2 + 2 + 3), 0, 2, 3, 4, 5, 6);
    }

    // the minutes: the most that there may be
    private static void fetchOfTheMostMinutes() {
        BoatsCalledIn x = lake(47, 47, 47, 47, 47, 47, 47);
        launchOf(x, 1, 9);
        order(x, 127, 7 * 12 * (9 + 10), 0, 1, 2, 3, 4, 5, 6);
        launchOf(x, 6, 9);
        order(x, 127, 12 * (9 + 15) + 12 * 19, 0, 1, 2, 3, 4, 5, 6);
    }

    // fetch: BAD: not all are ON THE LAKE
    private static void fetchRefusesItsSet() {
        BoatsCalledIn x = Check.willing(1);
        Check.due("one of none", x.fetch(1, 0), BAD);
        for (int i = 0; i < 3; i++) {
            Check.boat(x, 0, 0, i, 0, 5);
        }
        int[] bad = {8, 9, 15, 64, 127, 128, 256, -1, -8, LOW, HIGH, 1 << 30, LOW + 1};
        for (int set : bad) {
            for (int what = 0; what < 8; what += 7) {
                Check.due("fetch(" + set + ", " + what + ")", x.fetch(set, what), BAD);
            }
        }
        BoatsCalledIn y = lake(1, 1, 1, 1, 1, 1, 1);
        int[] beyond = {128, 129, 255, 256, 1 << 30, LOW, -128};
        for (int set : beyond) {
            Check.due("beyond seven: fetch(" + set + ", 0)", y.fetch(set, 0), BAD);
            Check.due("beyond seven: launch(" + set + ")", y.launch(set), BAD);
        }
        Check.due("seven: fetch(127, 7)", y.fetch(127, 7), 6);
        x.call(0);
        x.call(1);
        x.time(0);
        Check.due("one that is in", x.fetch(1, 0), BAD);
        Check.due("one that is coming", x.fetch(2, 0), BAD);
        Check.due("one that is coming, and another", x.fetch(6, 1), BAD);
        Check.due("one on the lake", x.fetch(4, 0), 6);
        Check.due("none", x.fetch(0, 0), 0);
    }

    // fetch: BAD (a number is none such)
    private static void fetchRefusesWhat() {
        BoatsCalledIn x = lake(1, 2);
        int[] bad = {-1, 8, 9, LOW, HIGH};
        for (int what : bad) {
            Check.due("fetch(3, " + what + ")", x.fetch(3, what), BAD);
            Check.due("fetch(0, " + what + ")", x.fetch(0, what), BAD);
            Check.due("fetch(4, " + what + ")", x.fetch(4, what), BAD);
        }
        Check.due("fetch(3, 7)", x.fetch(3, 7), NONE);
    }

    // fetch asks, and changes nothing
    private static void fetchChangesNothing() {
        BoatsCalledIn x = lake(9, 47, 3);
        String before = Check.seen(x);
        x.fetch(7, 0);
        x.fetch(7, 3);
        x.fetch(9, 0);
        Check.unchanged("fetch", before, x);
    }

    // TIME of FETCH's minutes passes
    private static void launchPassesTheMinutes() {
        BoatsCalledIn x = lake(3, 8, 4);
        int minutes = x.fetch(3, 0);
        Check.due("launch", x.launch(3), minutes);
        Check.due("the minute", x.count(4), minutes);
        Check.due("the one that stayed", x.told(2, 5), 0);
        Check.due("another way", x.launch(4), 12);
        Check.due("the minute after", x.count(4), minutes + 12);
    }

    // (n may be above 240)
    private static void launchMayTakeMoreThan240() {
        BoatsCalledIn x = lake(47, 47, 47, 47, 47, 47, 47);
        launchOf(x, 1, 9);
        Check.due("241 and more", x.launch(3), 456);
        Check.due("the minute", x.count(4), 456);
        Check.due("more again", x.launch(124), 5 * 228);
        Check.due("the minute after", x.count(4), 7 * 228);
        Check.due("all are in", x.count(3), 7);
    }

    // TIME passes (those COMING come IN), then these
    private static void launchBringsOthersInAheadOfThese() {
        BoatsCalledIn x = Check.willing(10);
        Check.boat(x, 0, 0, 1, 0, 5);
        Check.boat(x, 0, 0, 47, 0, 240);
        Check.boat(x, 0, 0, 9, 0, 240);
        Check.boat(x, 0, 0, 10, 0, 240);
        x.set(8, 0, 20);
        x.time(4);
        x.call(0);
        x.call(3);
        x.time(1);
        Check.due("launch", x.launch(4), 6);
        Check.due("who was called is in at its minute", x.told(0, 6), 6);
        Check.due("what it owed then", x.count(5), 10);
        Check.due("the fetched one", x.told(2, 6), 11);
        Check.due("who is in a minute ahead", x.told(3, 5), 2);
        Check.due("in at its minute", x.told(3, 6), 10);
        Check.due("three less are waiting", x.count(6), 17);
        Check.due("who was neither", x.told(1, 5), 0);
    }

    // then these, by numbers, come IN at THE MINUTE
    private static void launchBringsTheseInAtTheMinute() {
        BoatsCalledIn x = lake(1, 2, 3, 4);
        x.set(8, 0, 3);
        x.time(10);
        int minutes = x.launch(13);
        int[] how = {2, 0, 2, 2};
        int[] in = {10 + minutes, NONE, 10 + minutes, 10 + minutes};
        for (int boat = 0; boat < 4; boat++) {
            Check.due("how is " + boat, x.told(boat, 5), how[boat]);
            Check.due("in is " + boat, x.told(boat, 6), in[boat]);
            Check.due("its cell stays", x.told(boat, 0), boat + 1);
        }
        Check.due("nobody waits", x.count(6), 0);
    }

    // Some (bits): none
    private static void launchOfNone() {
        BoatsCalledIn x = new BoatsCalledIn();
        Check.due("of no boats", x.launch(0), 0);
        Check.boat(x, 0, 0, 47, 0, 5);
        x.time(7);
        String before = Check.seen(x);
        Check.due("of none of them", x.launch(0), 0);
        Check.unchanged("launch of none", before, x);
    }

    // TIME: 9999 at most
    private static void launchUpToTheLastMinute() {
        BoatsCalledIn x = Check.willing(1);
        Check.boat(x, 0, 0, 1, 999, 240);
        Check.boat(x, 0, 0, 47, 999, 240);
        Check.pass(x, 9996);
        Check.due("just up to it", x.launch(1), 3);
        Check.due("9999", x.count(4), 9999);
        Check.due("in at", x.told(0, 6), 9999);
        Check.due("beyond it", x.launch(2), 36);
        Check.due("9999 again", x.count(4), 9999);
        Check.due("in at 9999, too", x.told(1, 6), 9999);
        Check.due("what both owed", x.count(5), 2 * 584);
    }

    // come IN: what each OWES comes to TAKINGS
    private static void launchTakesWhatTheyOwe() {
        BoatsCalledIn x = Check.willing(10);
        for (int kind = 0; kind < 6; kind++) {
            Check.boat(x, kind, 9, 0, 0, 5);
        }
        x.time(6);
        int[] owed = {10, 10, 5, 0, 7, 19};
        int takings = 0;
        for (int kind = 0; kind < 6; kind++) {
            takings += owed[kind];
            Check.due("launch of kind " + kind, x.launch(1 << kind), 0);
            Check.due("takings with kind " + kind, x.count(5), takings);
        }
    }

    // launch: BAD: not all are ON THE LAKE
    private static void launchRefuses() {
        BoatsCalledIn x = Check.willing(1);
        Check.due("one of none", x.launch(1), BAD);
        for (int i = 0; i < 3; i++) {
            Check.boat(x, 0, 0, i, 0, 5);
        }
        x.call(0);
        x.call(1);
        x.time(0);
        String before = Check.seen(x);
        int[] bad = {1, 2, 3, 5, 6, 7, 8, 12, 128, -1, LOW, HIGH, 1 << 30};
        for (int set : bad) {
            Check.due("launch(" + set + ")", x.launch(set), BAD);
        }
        Check.unchanged("refused launches", before, x);
        Check.due("one on the lake", x.launch(4), 6);
        Check.due("again", x.launch(4), BAD);
    }

    // ONE (what 0; NONE), minutes (1; 0)
    private static void oneOfNone() {
        BoatsCalledIn x = Check.willing(1);
        Check.due("no boats", x.one(0), NONE);
        Check.due("no boats, minutes", x.one(1), 0);
        Check.boat(x, 0, 0, 3, 0, 5);
        Check.due("one", x.one(0), 0);
        Check.due("one, minutes", x.one(1), 9);
        x.call(0);
        Check.due("one that is coming", x.one(0), NONE);
        Check.due("one that is coming, minutes", x.one(1), 0);
        x.time(240);
        Check.due("one that is in", x.one(0), NONE);
        Check.due("one that is in, minutes", x.one(1), 0);
    }

    // ONE: .. of like ones the first
    private static void oneIsTheFirstOfLikeOnes() {
        BoatsCalledIn x = lake(20, 10, 3, 17, 24);
        Check.due("the first of four", x.one(0), 1);
        Check.due("minutes", x.one(1), 9);
        x.set(0, 4, 16);
        Check.due("a nearer one", x.one(0), 4);
        x.set(0, 0, 2);
        Check.due("as near, and ahead", x.one(0), 0);
        Check.due("minutes of either", x.one(1), 6);
        x.set(0, 3, 0);
        Check.due("at the stage", x.one(0), 3);
        Check.due("no minutes", x.one(1), 0);
    }

    // ONE: the BOAT ON THE LAKE
    private static void oneIsOnTheLake() {
        BoatsCalledIn x = Check.willing(1);
        Check.boat(x, 0, 0, 1, 0, 5);
        Check.boat(x, 0, 0, 2, 0, 5);
        Check.boat(x, 0, 0, 3, 0, 5);
        x.call(0);
        x.call(1);
        x.time(2);
        Check.due("the one on the lake", x.one(0), 2);
        Check.due("its minutes", x.one(1), 9);
    }

    // ONE: fewest minutes to FETCH alone
    private static void oneBySpeed() {
        BoatsCalledIn x = lake(47, 46);
        for (int speed = 1; speed <= 9; speed++) {
            launchOf(x, 1 + speed % 6, speed);
            Check.due("by speed " + speed, x.one(0), 1);
            Check.due("minutes by speed " + speed, x.one(1), 22 * speed + 11);
        }
    }

    // one: BAD
    private static void oneRefuses() {
        BoatsCalledIn x = new BoatsCalledIn();
        int[] bad = {-1, 2, 3, LOW, HIGH};
        for (int what : bad) {
            Check.due("one(" + what + ") of none", x.one(what), BAD);
        }
        Check.boat(x, 0, 0, 1, 0, 5);
        for (int what : bad) {
            Check.due("one(" + what + ")", x.one(what), BAD);
        }
    }

    // THUNDER in n minutes (0 ..)
    private static void thunderIn0Minutes() {
        BoatsCalledIn x = Check.willing(1);
        Check.due("no boats", x.thunder(0, 0), 0);
        Check.due("no boats, more", x.thunder(0, 1), 0);
        Check.boat(x, 0, 0, 0, 0, 5);
        Check.boat(x, 0, 0, 1, 0, 5);
        Check.boat(x, 0, 0, 0, 0, 5);
        Check.due("those at the stage", x.thunder(0, 0), 5);
        Check.rule(x, "1", "0", "0");
        Check.due("those at the stage that wouldn't come", x.thunder(0, 0), 0);
        Check.due("they are fetched in no time", x.thunder(0, 1), 2);
    }

    // .. (.. 240)
    private static void thunderIn240Minutes() {
        BoatsCalledIn x = Check.willing(1);
        x.set(5, 0, 9);
        Check.boat(x, 3, 9, 47, 0, 5);
        Check.boat(x, 3, 9, 46, 0, 5);
        Check.due("168 minutes away", x.thunder(167, 0), 2);
        Check.due("168 minutes", x.thunder(168, 0), 3);
        Check.due("240 minutes", x.thunder(240, 0), 3);
        BoatsCalledIn y = lake(47, 47);
        launchOf(y, 1, 4);
        Check.due("a launch of 216 minutes", y.thunder(216, 1), 2);
        Check.due("of 216 minutes, in 215", y.thunder(215, 1), 1);
        launchOf(y, 1, 5);
        Check.due("a launch of 264 minutes", y.thunder(240, 1), 1);
    }

    // BOATS (bits) that .. would be in by then, all ON THE LAKE being called now
    private static void thunderIsInByThen() {
        BoatsCalledIn x = Check.willing(1);
        for (int i = 0; i < 7; i++) {
            Check.boat(x, 0, 0, i, 0, 5);
        }
        x.time(100);
        for (int n = 0; n < 14; n++) {
            Check.due("in " + n + " minutes", x.thunder(n, 0), (2 << Math.min(6, n / 2)) - 1);
        }
        Check.boat(x, 0, 0, 0, 0, 5);
        x.set(0, 6, 47);
        Check.due("a far one", x.thunder(23, 0), 63);
        Check.due("a far one, a minute later", x.thunder(24, 0), 127);
    }

    // BOATS (bits) that are IN
    private static void thunderTellsThoseThatAreIn() {
        BoatsCalledIn x = lake(47, 46, 45);
        x.launch(2);
        Check.due("one that was fetched", x.thunder(0, 0), 2);
        x.launch(5);
        Check.due("all", x.thunder(0, 0), 7);
        Check.due("none more", x.thunder(240, 1), 0);
    }

    // .. would be in by then: those COMING by the minute that they were told
    private static void thunderOfThoseComing() {
        BoatsCalledIn x = Check.willing(1);
        Check.boat(x, 0, 0, 5, 0, 5);
        Check.boat(x, 0, 0, 47, 0, 5);
        x.call(0);
        x.time(3);
        x.set(0, 0, 47);
        Check.rule(x, "1", "0", "0");
        Check.due("7 minutes ahead", x.thunder(6, 0), 0);
        Check.due("by then", x.thunder(7, 0), 1);
        Check.due("it isn't fetched", x.thunder(240, 1), 1);
    }

    // the most of any set of those of NOBODY
    private static void thunderMoreOfNobody() {
        BoatsCalledIn x = new BoatsCalledIn();
        Check.rule(x, "1", "1", "boat=1");
        for (int i = 0; i < 4; i++) {
            Check.boat(x, 0, 0, 0, 0, 5);
        }
        Check.due("all but the one that would come", x.thunder(0, 1), 3);
        x.launch(4);
        Check.due("nor the one that is in", x.thunder(0, 1), 2);
        x.call(1);
        Check.rule(x, "1", "0", "0");
        Check.due("nor the one that is coming", x.thunder(0, 1), 2);
    }

    // .. that it takes no more than n minutes to FETCH
    private static void thunderMoreInNoMoreThanN() {
        BoatsCalledIn x = lake(1, 3, 5);
        int[] sets = {1, 3, 7};
        for (int i = 0; i < 3; i++) {
            int minutes = x.fetch(sets[i], 0);
            Check.due("in just " + minutes, x.thunder(minutes, 1), i + 1);
            Check.due("in one less than " + minutes, x.thunder(minutes - 1, 1), i);
        }
    }

    // the most of any set: not of one taken after another
    private static void thunderMoreOfAnySet() {
        // the nearest one lies off the way of the two others
        BoatsCalledIn x = lake(32, 5, 6, 7);
        launchOf(x, 3, 1);
        Check.due("three along the row", x.fetch(14, 0), 7 + 2 + 3 + 20);
        Check.due("one of them and the nearest", x.fetch(3, 0), 5 + 9 * 2 + 4 * 3);
        Check.due("three in 32", x.thunder(32, 1), 3);
        Check.due("two in 31", x.thunder(31, 1), 2);
        Check.due("one in 12", x.thunder(12, 1), 1);
        Check.due("none in 11", x.thunder(11, 1), 0);
    }

    // THUNDER: how many more (1): none
    private static void thunderMoreOfNone() {
        BoatsCalledIn x = Check.willing(1);
        Check.boat(x, 0, 0, 47, 0, 5);
        Check.due("one that would come, though not by then", x.thunder(0, 1), 0);
        Check.due("one that would come by then", x.thunder(240, 1), 0);
        BoatsCalledIn y = lake(1);
        Check.due("in no minutes", y.thunder(0, 1), 0);
        Check.due("in 2", y.thunder(2, 1), 0);
        Check.due("in 3", y.thunder(3, 1), 1);
    }

    // thunder: BAD
    private static void thunderRefuses() {
        BoatsCalledIn x = lake(1);
        int[] n = {-1, 241, 242, LOW, HIGH};
        int[] what = {-1, 2, 3, LOW, HIGH};
        for (int i = 0; i < 5; i++) {
            Check.due("thunder(" + n[i] + ", 0)", x.thunder(n[i], 0), BAD);
            Check.due("thunder(" + n[i] + ", 1)", x.thunder(n[i], 1), BAD);
            Check.due("thunder(0, " + what[i] + ")", x.thunder(0, what[i]), BAD);
            Check.due("thunder(240, " + what[i] + ")", x.thunder(240, what[i]), BAD);
            Check.due("thunder(" + n[i] + ", " + what[i] + ")", x.thunder(n[i], what[i]), BAD);
        }
    }

    // thunder asks, and changes nothing
    private static void thunderChangesNothing() {
        BoatsCalledIn x = Check.willing(1);
        Check.boat(x, 0, 0, 9, 0, 5);
        Check.boat(x, 4, 0, 47, 0, 5);
        x.call(0);
        String before = Check.seen(x);
        x.thunder(240, 0);
        x.thunder(240, 1);
        Check.unchanged("thunder", before, x);
    }

    // STAND: .. one for each who is WAITING: nobody
    private static void standOfNoneWaiting() {
        BoatsCalledIn x = Check.willing(1);
        Check.due("no boats", x.stand(), 0);
        Check.boat(x, 0, 0, 9, 0, 5);
        Check.due("nobody waits", x.stand(), 0);
        x.set(8, 0, 1);
        Check.due("one waits", x.stand(), 4);
    }

    // (240 for each for whom there is none any more)
    private static void standFor240Each() {
        BoatsCalledIn x = Check.willing(1);
        x.set(8, 0, 1);
        Check.due("no boats", x.stand(), 240);
        Check.boat(x, 4, 0, 47, 0, 5);
        Check.due("one that wouldn't come", x.stand(), 240);
        Check.boat(x, 0, 0, 9, 0, 5);
        Check.due("one that would", x.stand(), 4);
        x.set(8, 0, 2);
        Check.due("one for two", x.stand(), 4 + 240);
        x.set(8, 0, 3);
        Check.due("one for three", x.stand(), 4 + 480);
    }

    // the minutes from now in which those COMING then are in, in order
    private static void standInOrder() {
        BoatsCalledIn x = Check.willing(1);
        int[] cells = {7, 2, 0, 5, 2, 47, 1};
        for (int cell : cells) {
            Check.boat(x, 0, 0, cell, 0, 5);
        }
        int[] minutes = {0, 2, 4, 4, 10, 14, 24};
        x.time(50);
        int together = 0;
        for (int waiting = 1; waiting <= 9; waiting++) {
            together += waiting <= 7 ? minutes[waiting - 1] : 240;
            x.set(8, 0, waiting);
            Check.due(waiting + " are waiting", x.stand(), together);
        }
    }

    // those COMING then: also those that were called long ago
    private static void standOfThoseComing() {
        BoatsCalledIn x = Check.willing(1);
        Check.boat(x, 0, 0, 47, 0, 5);
        Check.boat(x, 0, 0, 9, 0, 5);
        x.call(0);
        x.time(21);
        x.set(8, 0, 1);
        Check.due("the one that was called, ahead of the other", x.stand(), 3);
        x.set(8, 0, 2);
        Check.due("both", x.stand(), 3 + 4);
        Check.rule(x, "1", "0", "0");
        Check.due("the other wouldn't come any more", x.stand(), 3 + 240);
    }

    // STAND: those that are IN aren't COMING
    private static void standOfThoseIn() {
        BoatsCalledIn x = Check.willing(1);
        Check.boat(x, 0, 0, 1, 0, 5);
        x.call(0);
        x.set(8, 0, 2);
        x.time(2);
        Check.due("one went, one waits", x.count(6), 1);
        Check.due("for none", x.stand(), 240);
    }

    // WAITING (.. 20)
    private static void standOfTheMostWaiting() {
        BoatsCalledIn x = Check.willing(1);
        for (int i = 0; i < 7; i++) {
            Check.boat(x, 0, 0, 0, 0, 5);
        }
        x.set(8, 0, 20);
        Check.due("seven at the stage for twenty", x.stand(), 13 * 240);
        x.set(8, 0, 7);
        Check.due("seven at the stage for seven", x.stand(), 0);
    }

    // stand asks, and changes nothing
    private static void standChangesNothing() {
        BoatsCalledIn x = Check.willing(1);
        Check.boat(x, 0, 0, 9, 0, 5);
        Check.boat(x, 0, 0, 1, 0, 5);
        x.set(8, 0, 5);
        String before = Check.seen(x);
        x.stand();
        Check.unchanged("stand", before, x);
    }
}
