/** Promises 13 to 17: fetch, launch, one, thunder, stand. */
public final class LaunchTest {
    private static final int BAD = -2, NONE = -1;

    public static void main(String[] args) {
        promise13();
        promise13Tows();
        promise13LikeOnes();
        promise13Refusals();
        promise14();
        promise14Others();
        promise14End();
        promise14Refusals();
        promise15();
        promise16();
        promise16More();
        promise16Refusals();
        promise17();
        Check.end();
    }

    /** Boats that are not to be called for long, one in each of these cells. */
    private static BoatsCalledIn lake(int... cells) {
        BoatsCalledIn x = new BoatsCalledIn();
        for (int cell : cells) {
            Check.boat(x, 0, 0, cell, 999, 240);
        }
        return x;
    }

    private static void order(BoatsCalledIn x, int set, int minutes, int... order) {
        Check.due("fetch(" + set + ", 0)", x.fetch(set, 0), minutes);
        for (int number = 1; number <= 7; number++) {
            int want = number <= order.length ? order[number - 1] : NONE;
            Check.due("fetch(" + set + ", " + number + ")", x.fetch(set, number), want);
        }
    }

    private static void promise13() {
        BoatsCalledIn x = lake(3, 8, 47, 20);
        order(x, 0, 0);
        order(x, 1, 3 + 3 * 2, 0);
        order(x, 4, 12 + 12 * 2, 2);
        // out 3, on 4 with one, back 1 with two; the other way round it is 1 + 4 * 2 + 3 * 3
        order(x, 3, 3 + 4 * 2 + 3, 0, 1);
        x.set(7, 0, 9);
        order(x, 1, 3 * 9 + 3 * 10, 0);
        order(x, 3, 3 * 9 + 4 * 10 + 11, 0, 1);
        x.set(7, 0, 1);
        // far out alone, then 6 and 6 with it
        order(x, 12, 12 + 6 * 2 + 6 * 3, 2, 3);
        x.set(5, 0, 9);
        order(x, 12, 42, 2, 3);
    }

    private static void promise13Tows() {
        BoatsCalledIn x = lake(3, 8, 47);
        x.set(6, 0, 1);
        order(x, 7, 9 + 3 + 36, 0, 1, 2);
        x.set(6, 0, 2);
        // first the far one and one on its way home, then the near one by itself
        order(x, 7, 12 + 9 * 2 + 3 * 3 + 1 + 2, 2, 0, 1);
        x.set(6, 0, 3);
        order(x, 7, 12 + 9 * 2 + 4 * 3 + 4, 2, 0, 1);
        x.set(6, 0, 6);
        order(x, 7, 12 + 9 * 2 + 4 * 3 + 4, 2, 0, 1);
    }

    private static void promise13LikeOnes() {
        BoatsCalledIn x = lake(9, 9, 9, 9, 9, 9, 9);
        order(x, 127, 3 * (2 + 2 * 3) + 2 + 2 * 2, 0, 1, 2, 3, 4, 5, 6);
        order(x, 84, 2 + 6 + 2 + 4, 2, 4, 6);
        x.set(6, 0, 6);
        order(x, 127, 2 + 2 * 7 + 2 + 2 * 2, 0, 1, 2, 3, 4, 5, 6);
        BoatsCalledIn y = lake(2, 16);
        order(y, 3, 2 + 4 * 2 + 2 * 3, 0, 1);
        BoatsCalledIn z = lake(0, 0, 5);
        order(z, 7, 15, 0, 1, 2);
        // asked for no minutes ahead: 3 + 4 * 2 + 3 against 1 + 4 * 2 + 9, and 12 + 11 * 2 + 3 against 1 + 11 * 2 + 36
        BoatsCalledIn w = lake(8, 3, 47);
        Check.due("the first of one set", w.fetch(3, 1), 1);
        Check.due("the first of another", w.fetch(5, 1), 2);
        Check.due("the second of another", w.fetch(5, 2), 0);
    }

    private static void promise13Refusals() {
        BoatsCalledIn x = Check.willing(4);
        Check.boat(x, 0, 0, 1, 0, 5);
        Check.boat(x, 0, 0, 2, 0, 5);
        Check.boat(x, 0, 0, 3, 0, 5);
        int[][] bad = {{8, 0}, {-1, 0}, {0, -1}, {0, 8}, {7, 8}, {Integer.MIN_VALUE, 0}, {Integer.MAX_VALUE, 1},
            {128, 0}, {256, 0}, {1 << 30, 2}, {0, Integer.MIN_VALUE}, {0, Integer.MAX_VALUE}};
        for (int[] b : bad) {
            Check.due("fetch(" + b[0] + ", " + b[1] + ")", x.fetch(b[0], b[1]), BAD);
        }
        x.call(1);
        Check.due("one of them is coming", x.fetch(3, 0), BAD);
        Check.due("the others", x.fetch(5, 0), 3 + 2 * 2 + 3);
        x.time(240);
        Check.due("one of them is in", x.fetch(7, 1), BAD);
        String before = Check.seen(x);
        x.fetch(5, 0);
        x.fetch(5, 1);
        Check.unchanged("fetch", before, x);
    }

    private static void promise14() {
        BoatsCalledIn x = Check.willing(10);
        Check.boat(x, 0, 0, 3, 0, 5);
        Check.boat(x, 0, 0, 8, 0, 10);
        Check.boat(x, 0, 0, 9, 0, 10);
        x.set(8, 0, 9);
        Check.due("launch(3)", x.launch(3), 14);
        Check.due("the minute", x.count(4), 14);
        Check.due("how is 0", x.told(0, 5), 2);
        Check.due("how is 1", x.told(1, 5), 2);
        Check.due("how is 2", x.told(2, 5), 0);
        Check.due("in is 0", x.told(0, 6), 14);
        Check.due("in is 1", x.told(1, 6), 14);
        Check.due("a quarter of each", x.count(5), 20);
        Check.due("waiting", x.count(6), 7);
        Check.due("its cell stays", x.told(0, 0), 3);
        Check.due("launch(0)", x.launch(0), 0);
        Check.due("nothing happened", x.count(4), 14);
    }

    private static void promise14Others() {
        BoatsCalledIn x = Check.willing(10);
        Check.boat(x, 0, 0, 47, 0, 100);
        Check.boat(x, 0, 0, 3, 0, 100);
        Check.boat(x, 0, 0, 47, 0, 100);
        Check.boat(x, 0, 0, 0, 0, 5);
        x.set(7, 0, 9);
        x.time(1);
        x.call(1);
        x.call(3);
        Check.due("launch(0) lets in one that is there", x.launch(0), 0);
        Check.due("it is in", x.told(3, 5), 2);
        Check.due("in one way more than 240", x.launch(5), 12 * 9 + 12 * 11);
        Check.due("the minute", x.count(4), 241);
        Check.due("the one that was called came meanwhile", x.told(1, 6), 7);
        Check.due("the fetched ones", x.told(2, 6), 241);
        Check.due("10 quarters for two", x.count(5), 200);
    }

    private static void promise14End() {
        BoatsCalledIn x = Check.willing(1);
        Check.boat(x, 0, 0, 47, 0, 100);
        Check.pass(x, 9990);
        Check.due("launch(1)", x.launch(1), 36);
        Check.due("the end", x.count(4), 9999);
        Check.due("in at the end", x.told(0, 6), 9999);
        Check.due("quarters till the end", x.count(5), (9999 - 100 + 14) / 15);
    }

    private static void promise14Refusals() {
        BoatsCalledIn x = Check.willing(4);
        Check.boat(x, 0, 0, 1, 0, 5);
        Check.boat(x, 0, 0, 2, 0, 5);
        x.call(0);
        String before = Check.seen(x);
        int[] bad = {1, 3, 4, 7, -1, 128, Integer.MIN_VALUE, Integer.MAX_VALUE};
        for (int set : bad) {
            Check.due("launch(" + set + ")", x.launch(set), BAD);
        }
        Check.unchanged("wrong calls of launch", before, x);
    }

    private static void promise15() {
        BoatsCalledIn x = new BoatsCalledIn();
        Check.due("of no boats", x.one(0), NONE);
        Check.due("of no boats, minutes", x.one(1), 0);
        int[] bad = {-1, 2, Integer.MIN_VALUE, Integer.MAX_VALUE};
        for (int what : bad) {
            Check.due("one(" + what + ")", x.one(what), BAD);
        }
        int[] cells = {12, 3, 10, 17};
        for (int cell : cells) {
            Check.boat(x, 0, 0, cell, 0, 5);
        }
        Check.due("the first of like ones", x.one(0), 1);
        Check.due("its minutes", x.one(1), 9);
        x.set(7, 0, 4);
        Check.due("its minutes by a slow launch", x.one(1), 3 * 4 + 3 * 5);
        x.time(5);
        x.call(1);
        Check.due("the one behind it", x.one(0), 2);
        x.set(0, 3, 0);
        Check.due("one at the stage", x.one(0), 3);
        Check.due("in no minutes", x.one(1), 0);
        x.set(0, 0, 0);
        Check.due("the first of all", x.one(0), 0);
        x.launch(13);
        x.time(240);
        Check.due("when all are in", x.one(0), NONE);
        Check.due("when all are in, minutes", x.one(1), 0);
    }

    private static void promise16() {
        BoatsCalledIn x = new BoatsCalledIn();
        Check.due("no boats", x.thunder(240, 0), 0);
        Check.boat(x, 0, 0, 3, 0, 30);
        Check.boat(x, 0, 0, 7, 0, 30);
        Check.boat(x, 0, 0, 1, 0, 60);
        Check.boat(x, 0, 0, 0, 0, 20);
        Check.boat(x, 0, 0, 2, 0, 20);
        Check.due("too early for all", x.thunder(240, 0), 0);
        x.time(30);
        x.call(4);
        x.time(3);
        Check.due("thunder now", x.thunder(0, 0), 8);
        Check.due("in one minute", x.thunder(1, 0), 8 + 16);
        Check.due("in 5 minutes", x.thunder(5, 0), 8 + 16);
        Check.due("in 6 minutes", x.thunder(6, 0), 1 + 8 + 16);
        Check.due("in 13 minutes", x.thunder(13, 0), 1 + 8 + 16);
        Check.due("in 14 minutes", x.thunder(14, 0), 1 + 2 + 8 + 16);
        Check.due("in 240 minutes", x.thunder(240, 0), 1 + 2 + 8 + 16);
        x.time(1);
        x.set(5, 0, 9);
        x.force(Check.text(x, "price 1; hears 0; comes 0;"));
        Check.due("those in stay in", x.thunder(0, 0), 16);
    }

    private static void promise16More() {
        BoatsCalledIn x = lake(9, 9, 10, 47, 1);
        int[] minutes = {0, 2, 3, 7, 8, 9, 14, 15, 19, 20};
        for (int n : minutes) {
            Check.due("how many more in " + n, x.thunder(n, 1), most(x, n));
        }
        Check.due("none in 2", x.thunder(2, 1), 0);
        Check.due("the nearest in 3", x.thunder(3, 1), 1);
        Check.due("two in 7", x.thunder(7, 1), 2);
        Check.due("all in 240", x.thunder(240, 1), 5);
        x.force(Check.text(x, "price 1; hears 1; comes boat < 4;"));
        Check.due("those that would come are not fetched", x.thunder(240, 1), 1);
        Check.due("those that would come are not fetched, in 2", x.thunder(2, 1), 0);
        x.call(0);
        x.time(240);
        Check.due("those that are in are not fetched", x.thunder(240, 1), 1);
    }

    /** The most of any set by fetch itself. */
    private static int most(BoatsCalledIn x, int n) {
        int most = 0;
        for (int set = 0; set < 32; set++) {
            if (x.fetch(set, 0) <= n) {
                most = Math.max(most, Integer.bitCount(set));
            }
        }
        return most;
    }

    private static void promise16Refusals() {
        BoatsCalledIn x = lake(9);
        int[][] bad = {{-1, 0}, {241, 0}, {0, -1}, {0, 2}, {241, 1}, {-1, 1}, {Integer.MIN_VALUE, 0},
            {Integer.MAX_VALUE, 1}, {5, Integer.MIN_VALUE}, {5, Integer.MAX_VALUE}};
        for (int[] b : bad) {
            Check.due("thunder(" + b[0] + ", " + b[1] + ")", x.thunder(b[0], b[1]), BAD);
        }
        String before = Check.seen(x);
        x.thunder(240, 0);
        x.thunder(240, 1);
        Check.unchanged("thunder", before, x);
    }

    private static void promise17() {
        BoatsCalledIn x = Check.willing(4);
        Check.boat(x, 0, 0, 7, 0, 30);
        Check.boat(x, 0, 0, 1, 0, 30);
        Check.boat(x, 4, 0, 47, 0, 30);
        Check.boat(x, 0, 0, 3, 0, 30);
        Check.due("nobody waits", x.stand(), 0);
        int[] together = {0, 2, 8, 22, 262, 502};
        for (int waiting = 0; waiting < together.length; waiting++) {
            x.set(8, 0, waiting);
            Check.due("waiting " + waiting, x.stand(), together[waiting]);
        }
        x.call(0);
        x.time(1);
        Check.due("one is coming for a minute", x.stand(), 2 + 6 + 13 + 240 + 240);
        x.call(1);
        x.time(2);
        x.set(8, 0, 2);
        Check.due("one is in", x.stand(), 6 + 11);
        x.set(8, 0, 20);
        Check.due("the most that wait", x.stand(), 6 + 11 + 18 * 240);
        String before = Check.seen(x);
        x.stand();
        Check.unchanged("stand", before, x);
    }
}
