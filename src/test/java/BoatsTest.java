/** Promises 1 to 4: a new object, boat, set, told. */
public final class BoatsTest {
    private static final int BAD = -2, FULL = -4, NONE = -1;

    public static void main(String[] args) {
        promise1();
        promise2();
        promise2Full();
        promise3();
        promise3Refusals();
        promise3WhateverTheBoatDoes();
        promise4Plain();
        promise4RowsAndHears();
        promise4Owes();
        promise4WouldCome();
        promise4Refusals();
        Check.end();
    }

    private static void promise1() {
        BoatsCalledIn x = new BoatsCalledIn();
        int[] counts = {0, 0, 0, 0, 0, 0, 0, 1, 0, 0};
        for (int what = 0; what < counts.length; what++) {
            Check.due("new: count(" + what + ")", x.count(what), counts[what]);
        }
        int[] lake = {27, 0, 2, 1, 0};
        for (int what = 4; what <= 8; what++) {
            Check.due("new: set(" + what + ", ..)", x.set(what, 0, 1), lake[what - 4]);
        }
        for (int sheet = 0; sheet < 4; sheet++) {
            Check.due("new: sheet " + sheet + " is missing", x.cell(sheet, 0, 0), -11);
        }
        Check.due("new: back()", x.back(), -3);
        Check.due("new: told(0, 0)", x.told(0, 0), BAD);
    }

    private static void promise2() {
        BoatsCalledIn x = new BoatsCalledIn();
        int[][] bad = {
            {-1, 0, 5000}, {6, 0, 5000}, {0, -1, 5000}, {0, 10, 5000}, {0, 99, 5000}, {0, 4710, 5000}, {0, 4800, 5000},
            {0, 0, -1}, {0, 0, 0}, {0, 0, 4999}, {0, 0, 241000}, {0, -4709, 5000}, {0, 0, -5000},
            {Integer.MIN_VALUE, Integer.MIN_VALUE, Integer.MIN_VALUE}, {0, Integer.MAX_VALUE, 5000},
            {0, 0, Integer.MAX_VALUE}, {0, 0, Integer.MIN_VALUE}, {0, Integer.MIN_VALUE, 5000}};
        for (int[] b : bad) {
            Check.due("boat(" + b[0] + ", " + b[1] + ", " + b[2] + ")", x.boat(b[0], b[1], b[2]), BAD);
        }
        Check.due("none came", x.count(0), 0);
        Check.due("the least of all", x.boat(0, 0, 5000), 0);
        Check.due("the most of all", x.boat(5, 4709, 240999), 1);
        int[] least = {0, 0, 5, 0, 0, 0, NONE};
        int[] most = {47, 999, 240, 9, 5, 0, NONE};
        for (int what = 0; what < 7; what++) {
            Check.due("the least: told " + what, x.told(0, what), least[what]);
            Check.due("the most: told " + what, x.told(1, what), most[what]);
        }
        Check.due("both are on the lake", x.count(1), 2);
    }

    private static void promise2Full() {
        BoatsCalledIn x = new BoatsCalledIn();
        for (int i = 0; i < 7; i++) {
            Check.due("boat " + i, x.boat(i % 6, 100 * i + i, 10000 + i), i);
        }
        Check.due("the eighth", x.boat(0, 0, 5000), FULL);
        Check.due("the eighth, and wrong", x.boat(0, 0, 4999), BAD);
        Check.due("the eighth, of no kind", x.boat(6, 0, 5000), BAD);
        Check.due("seven are there", x.count(0), 7);
    }

    private static void promise3() {
        BoatsCalledIn x = new BoatsCalledIn();
        x.boat(0, 1203, 40100);
        x.boat(2, 905, 50007);
        int[][] steps = {
            {0, 0, 47, 12}, {0, 0, 0, 47}, {0, 0, 13, 0}, {0, 1, 4, 9}, {1, 0, 999, 100}, {1, 0, 0, 999}, {1, 1, 8, 7},
            {2, 0, 240, 40}, {2, 0, 5, 240}, {2, 1, 60, 50}, {3, 0, 9, 3}, {3, 0, 0, 9}, {3, 1, 6, 5},
            {4, 0, 47, 27}, {4, 99, 0, 47}, {4, -1, 3, 0}, {5, 99, 9, 0}, {5, 0, 0, 9}, {6, -7, 6, 2}, {6, 0, 1, 6},
            {7, 99, 9, 1}, {7, 0, 1, 9}, {8, Integer.MIN_VALUE, 20, 0}, {8, 0, 0, 20}};
        for (int[] s : steps) {
            Check.due("set(" + s[0] + ", " + s[1] + ", " + s[2] + ")", x.set(s[0], s[1], s[2]), s[3]);
        }
        int[] told = {4, 8, 60, 6};
        for (int what = 0; what < 4; what++) {
            Check.due("told(1, " + what + ")", x.told(1, what), told[what]);
        }
        Check.due("told(0, 0)", x.told(0, 0), 13);
    }

    private static void promise3Refusals() {
        BoatsCalledIn x = new BoatsCalledIn();
        x.boat(1, 1203, 40100);
        String before = Check.seen(x);
        int[][] bad = {
            {-1, 0, 5}, {9, 0, 5}, {0, 1, 5}, {1, -1, 5}, {2, 7, 5}, {3, Integer.MAX_VALUE, 5},
            {0, 0, -1}, {0, 0, 48}, {1, 0, -1}, {1, 0, 1000}, {2, 0, 4}, {2, 0, 241}, {3, 0, -1}, {3, 0, 10},
            {4, 0, -1}, {4, 0, 48}, {5, 0, -1}, {5, 0, 10}, {6, 0, 0}, {6, 0, 7}, {7, 0, 0}, {7, 0, 10},
            {8, 0, -1}, {8, 0, 21}, {Integer.MIN_VALUE, 0, 0}, {Integer.MAX_VALUE, 0, 0}, {0, 0, Integer.MIN_VALUE}};
        for (int[] b : bad) {
            Check.due("set(" + b[0] + ", " + b[1] + ", " + b[2] + ")", x.set(b[0], b[1], b[2]), BAD);
        }
        Check.unchanged("wrong calls of set", before, x);
        Check.due("the island is as it was", x.set(4, 0, 27), 27);
        Check.due("tows are as they were", x.set(6, 0, 2), 2);
        Check.due("speed is as it was", x.set(7, 0, 1), 1);
    }

    private static void promise3WhateverTheBoatDoes() {
        BoatsCalledIn x = Check.willing(4);
        Check.boat(x, 0, 0, 3, 0, 5);
        x.call(0);
        Check.due("set of one that is coming", x.set(0, 0, 9), 3);
        Check.due("it is in when it was to be", x.told(0, 6), 6);
        x.time(6);
        Check.due("set of one that is in", x.set(1, 0, 7), 0);
        Check.due("told of one that is in", x.told(0, 1), 7);
    }

    private static void promise4Plain() {
        BoatsCalledIn x = Check.willing(4);
        Check.boat(x, 3, 4, 10, 30, 60);
        int[] first = {10, 30, 60, 4, 3, 0, NONE};
        for (int what = 0; what < 7; what++) {
            Check.due("on the lake: told " + what, x.told(0, what), first[what]);
        }
        x.time(7);
        x.call(0);
        Check.due("coming", x.told(0, 5), 1);
        Check.due("coming at", x.told(0, 6), 7 + 3 * 5);
        x.time(20);
        Check.due("in", x.told(0, 5), 2);
        Check.due("in at", x.told(0, 6), 22);
        for (int kind = 0; kind < 6; kind++) {
            Check.boat(x, kind, 1, 1, 1, 9);
            Check.due("kind " + kind, x.told(kind + 1, 4), kind);
        }
    }

    private static void promise4RowsAndHears() {
        BoatsCalledIn x = new BoatsCalledIn();
        int[] numbers = {3, 5, 2, 4, 3, 6};
        for (int kind = 0; kind < 6; kind++) {
            Check.boat(x, kind, numbers[kind], 9, 0, 30);
        }
        Check.boat(x, 5, 7, 9, 0, 30);
        int[] winds = {0, 1, 3, 8, 9};
        int[][] rows = {{2, 1, 2, 5, 2, 4, 4}, {2, 1, 3, 5, 3, 4, 4}, {3, 2, 6, 6, 6, 6, 6},
            {6, 5, 14, 9, 14, 12, 12}, {6, 5, 15, 9, 15, 12, 12}};
        int[][] hears = {{12, 17, 9, 16, 4, 12, 0}, {11, 16, 8, 15, 4, 11, 0}, {9, 14, 6, 13, 3, 9, 0},
            {4, 9, 1, 8, 0, 4, 0}, {3, 8, 0, 7, 0, 3, 0}};
        for (int i = 0; i < winds.length; i++) {
            x.set(5, 0, winds[i]);
            for (int boat = 0; boat < 7; boat++) {
                Check.due("rows of " + boat + " by wind " + winds[i], x.told(boat, 7), rows[i][boat]);
                Check.due("hears of " + boat + " by wind " + winds[i], x.told(boat, 8), hears[i][boat]);
            }
        }
    }

    private static void promise4Owes() {
        int[] numbers = {3, 5, 2, 4, 3, 6, 7};
        int[] minutes = {0, 30, 31, 45, 46, 60, 61};
        int[][] owed = {{0, 0, 0, 0, 2, 0, 0}, {0, 0, 0, 0, 2, 0, 0}, {5, 5, 2, 0, 4, 11, 12}, {5, 5, 2, 0, 4, 11, 12},
            {10, 10, 5, 0, 7, 16, 17}, {10, 10, 5, 0, 7, 16, 17}, {15, 15, 7, 0, 9, 21, 22}};
        BoatsCalledIn x = Check.willing(5);
        for (int boat = 0; boat < 7; boat++) {
            Check.boat(x, Math.min(boat, 5), numbers[boat], 9, 10, 20);
        }
        for (int i = 0; i < minutes.length; i++) {
            x.time(minutes[i] - x.count(4));
            for (int boat = 0; boat < 7; boat++) {
                Check.due("owed by " + boat + " in minute " + minutes[i], x.told(boat, 10), owed[i][boat]);
            }
        }
        x.force(Check.text(x, "price 0; hears 1; comes 1;"));
        int[] free = {0, 0, 0, 0, 2, 0, 0};
        for (int boat = 0; boat < 7; boat++) {
            Check.due("for nothing owed by " + boat, x.told(boat, 10), free[boat]);
        }
        x.force(Check.text(x, "price 1; hears 1; comes 1;"));
        int[] cheap = {3, 3, 1, 0, 3, 9, 10};
        for (int boat = 0; boat < 7; boat++) {
            Check.due("cheaply owed by " + boat, x.told(boat, 10), cheap[boat]);
        }
        x.set(2, 5, 46);
        Check.due("the least a boat would owe, and 6", x.told(5, 10), 7);
        x.force(Check.text(x, "price late - 32; hears 1; comes 1;"));
        Check.due("late tells how long ago it was due", x.told(0, 10), 0);
        x.time(2);
        Check.due("a price that rises", x.told(0, 10), 3);
        x.time(240);
        Check.due("99 is the most", x.told(0, 10), 99 * 19);
        Check.due("half of it, cut", x.told(2, 10), 99 * 19 / 2);
    }

    private static void promise4WouldCome() {
        BoatsCalledIn x = Check.willing(4);
        Check.boat(x, 0, 0, 47, 0, 5);
        Check.boat(x, 4, 0, 4, 0, 5);
        Check.boat(x, 4, 0, 5, 0, 5);
        Check.due("just heard by a boat", x.told(0, 9), 1);
        Check.due("just heard by a deaf one", x.told(1, 9), 1);
        Check.due("too far for a deaf one", x.told(2, 9), 0);
        x.set(5, 0, 1);
        Check.due("too far by this wind", x.told(0, 9), 0);
        x.call(1);
        Check.due("it would, though it is coming", x.told(1, 9), 1);
        x.time(240);
        Check.due("it would, though it is in", x.told(1, 9), 1);
        x.force(Check.text(x, "price 1; hears 0; comes 1;"));
        Check.due("the rule: none hears", x.told(1, 9), 0);
        x.force(Check.text(x, "price 1; hears 7; comes 0;"));
        Check.due("the rule: none comes", x.told(1, 9), 0);
        x.force(Check.text(x, "price 1; hears 0 - 7; comes 0 - 1;"));
        Check.due("the rule: below 0 is true", x.told(1, 9), 1);
    }

    private static void promise4Refusals() {
        BoatsCalledIn x = new BoatsCalledIn();
        x.boat(0, 0, 5000);
        int[][] bad = {{-1, 0}, {1, 0}, {7, 0}, {0, -1}, {0, 11}, {Integer.MIN_VALUE, 0}, {0, Integer.MAX_VALUE},
            {Integer.MAX_VALUE, 9}, {1, 9}};
        for (int[] b : bad) {
            Check.due("told(" + b[0] + ", " + b[1] + ")", x.told(b[0], b[1]), BAD);
        }
    }
}
