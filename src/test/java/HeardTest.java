/** Promises 18 to 24: heard, where, drawn, chance, image, back, count. */
public final class HeardTest {
    private static final int BAD = -2, STATE = -3, NONE = -1;
    private static final long NO = -4611686018427387904L;

    public static void main(String[] args) {
        promise18();
        promise18Refusals();
        promise19();
        promise19Refusals();
        promise20();
        promise21();
        promise21Refusals();
        promises22And23();
        promises22And23Boats();
        promises22And23KeepNoMore();
        promise24();
        Check.end();
    }

    private static int heard(BoatsCalledIn x, int... numbers) {
        Check.sheet(x, 3, 2, numbers);
        return x.heard(3);
    }

    private static void promise18() {
        BoatsCalledIn x = Check.willing(4);
        Check.boat(x, 0, 0, 3, 0, 30);
        Check.boat(x, 4, 0, 47, 0, 30);
        Check.boat(x, 0, 0, 3, 0, 30);
        Check.boat(x, 0, 0, 0, 0, 30);
        Check.due("nothing is told", heard(x), NONE);
        Check.due("all is true", heard(x, 0, 1, 1, 0, 2, 1), NONE);
        Check.due("told twice", heard(x, 0, 1, 0, 1), NONE);
        Check.due("0 came", heard(x, 0, 0, 1, 0), 0);
        Check.due("1 didn't", heard(x, 0, 1, 1, 1), 1);
        Check.due("no such boat", heard(x, 0, 1, 2, 1, 4, 0), 2);
        Check.due("no such boat, below 0", heard(x, -1, 0), 0);
        Check.due("neither 1 nor 0", heard(x, 0, 1, 0, 2), 1);
        Check.due("neither 1 nor 0, of one that wouldn't come", heard(x, 1, 0, 1, 2), 1);
        Check.due("neither 1 nor 0, below", heard(x, 1, 0, 1, -1), 1);
        Check.due("neither, of the greatest", heard(x, Integer.MAX_VALUE, Integer.MAX_VALUE), 0);
        x.call(0);
        Check.due("one that is coming", heard(x, 1, 0, 0, 1), 1);
        Check.due("one that is coming, told not to come", heard(x, 0, 0), 0);
        x.time(240);
        Check.due("one that is in", heard(x, 2, 1, 3, 1, 0, 1), 2);
        Check.sheet(x, 0, 0, 257, 256, 2, 1);
        Check.due("bytes", x.heard(0), NONE);
        Check.sheet(x, 0, 1, 65537, 0, 2, 65537);
        Check.due("shorts", x.heard(0), NONE);
        int[] most = new int[40];
        for (int i = 0; i < 40; i += 2) {
            most[i] = 2;
            most[i + 1] = i == 38 ? 0 : 1;
        }
        Check.due("the last of 20 rows", heard(x, most), 19);
        Check.due("nobody was called", x.told(2, 5), 0);
    }

    private static void promise18Refusals() {
        BoatsCalledIn x = Check.willing(4);
        int[] bad = {-1, 4, Integer.MIN_VALUE, Integer.MAX_VALUE};
        for (int sheet : bad) {
            Check.due("heard(" + sheet + ")", x.heard(sheet), BAD);
        }
        Check.due("heard of a missing sheet", x.heard(0), -11);
        x.sheet(0, 2, 1);
        Check.due("heard of an odd sheet", x.heard(0), BAD);
        x.sheet(0, 2, 39);
        Check.due("heard of an odd, long sheet", x.heard(0), BAD);
        x.sheet(0, -1, 0);
        Check.due("heard of a sheet that is missing again", x.heard(0), -11);
    }

    private static void promise19() {
        BoatsCalledIn x = new BoatsCalledIn();
        Check.boat(x, 2, 0, 0, 0, 30);
        Check.boat(x, 4, 0, 0, 0, 30);
        Check.boat(x, 5, 1, 47, 0, 30);
        int[] none = {0, 0, 0, 0, 0, 0};
        rows(x, 0, none);
        x.time(30);
        rows(x, 0, new int[] {255, 255, 255, 15, 63, 31});
        rows(x, 1, new int[] {31, 15, 7, 3, 1, 0});
        rows(x, 2, new int[] {1, 0, 0, 0, 0, 0});
        x.set(4, 0, 18);
        rows(x, 0, new int[] {255, 255, 7, 127, 63, 31});
        x.set(5, 0, 8);
        rows(x, 0, new int[] {3, 1, 0, 0, 0, 0});
        x.set(5, 0, 9);
        rows(x, 0, new int[] {1, 0, 0, 0, 0, 0});
        x.set(5, 0, 0);
        x.call(0);
        rows(x, 0, new int[] {255, 255, 7, 127, 63, 31});
        x.time(240);
        rows(x, 0, new int[] {255, 255, 7, 127, 63, 31});
        x.force(Check.text(x, "price 1; hears not hid; comes 3 < far and far < 6;"));
        rows(x, 0, new int[] {0x30, 0x18, 0x04, 0x06, 0x03, 0x01});
        Check.due("its cell stays", x.told(0, 0), 0);
    }

    private static void rows(BoatsCalledIn x, int boat, int[] bits) {
        for (int y = 0; y < 6; y++) {
            Check.due("where(" + boat + ", " + y + ")", x.where(boat, y), bits[y]);
        }
    }

    private static void promise19Refusals() {
        BoatsCalledIn x = Check.willing(4);
        Check.due("where of no boat", x.where(0, 0), BAD);
        Check.boat(x, 0, 0, 0, 0, 30);
        int[][] bad = {{-1, 0}, {1, 0}, {7, 0}, {0, -1}, {0, 6}, {Integer.MAX_VALUE, 0}, {0, Integer.MAX_VALUE},
            {Integer.MIN_VALUE, 0}, {0, Integer.MIN_VALUE}};
        for (int[] b : bad) {
            Check.due("where(" + b[0] + ", " + b[1] + ")", x.where(b[0], b[1]), BAD);
        }
        String before = Check.seen(x);
        x.where(0, 3);
        Check.unchanged("where", before, x);
    }

    /** The wind of a seed, told in another way than the program's. */
    private static int wind(int seed) {
        long z = Math.floorMod(seed * 1103515245L + 12345L, 4294967296L);
        return (int) (z / 1024 % 10);
    }

    private static void promise20() {
        BoatsCalledIn x = new BoatsCalledIn();
        x.force(Check.text(x, "price 1; hears 1; comes 1;"));
        Check.due("of no boats", x.drawn(3), 0);
        for (int boat = 0; boat < 7; boat++) {
            Check.boat(x, 0, 0, 5 * 8 + boat, 0, 30);
        }
        int[] seeds = {0, 1, 5, -1, -77, 12345, 99999, Integer.MAX_VALUE, Integer.MIN_VALUE, 7, 8, 9, 10, 11, 798, 643};
        for (int seed : seeds) {
            int reach = 12 - wind(seed);
            Check.due("drawn(" + seed + ")", x.drawn(seed), Math.max(0, Math.min(7, reach - 4)));
        }
        Check.due("by seed 0 wind is 2", wind(0), 2);
        Check.due("the wind stays", x.set(5, 0, 0), 0);
        x.call(0);
        x.call(1);
        x.time(10);
        Check.due("those that come or are in are not told of", x.drawn(0), 4);
        x.force(Check.text(x, "price 1; hears 1; comes wind = 2 and boat < 5;"));
        Check.due("the rule by the drawn wind", x.drawn(0), 3);
        String before = Check.seen(x);
        x.drawn(1);
        Check.unchanged("drawn", before, x);
    }

    private static void promise21() {
        BoatsCalledIn x = Check.willing(4);
        fraction(x, 5, 7, 1, 1);
        Check.boat(x, 0, 0, 0, 0, 30);
        fraction(x, 5, 20, 1, 1);
        Check.boat(x, 4, 0, 47, 0, 30);
        fraction(x, 5, 20, 0, 1);
        x.set(0, 1, 0);
        Check.boat(x, 0, 0, 7, 0, 30);
        int[] seeds = {0, 1, 77, -10, Integer.MAX_VALUE - 3, Integer.MIN_VALUE, 4711};
        int[] numbers = {1, 2, 3, 6, 10, 12, 19, 20};
        for (int seed : seeds) {
            for (int n : numbers) {
                int all = 0;
                for (int i = 0; i < n; i++) {
                    all += wind(seed + i) <= 5 ? 1 : 0;
                }
                int by = divisor(all, n);
                fraction(x, seed, n, all / by, n / by);
            }
        }
        x.set(0, 2, 47);
        x.set(0, 1, 47);
        x.set(5, 0, 5);
        Check.due("by no wind would all come", x.chance(3, 5, 0), 0);
        x.set(5, 0, 0);
        x.set(0, 1, 0);
        x.set(0, 2, 0);
        x.call(2);
        x.set(0, 2, 47);
        fraction(x, 0, 20, 1, 1);
    }

    private static int divisor(int a, int b) {
        return b == 0 ? a : divisor(b, a % b);
    }

    private static void fraction(BoatsCalledIn x, int seed, int n, int above, int below) {
        Check.due("chance(" + seed + ", " + n + ", 0)", x.chance(seed, n, 0), above);
        Check.due("chance(" + seed + ", " + n + ", 1)", x.chance(seed, n, 1), below);
    }

    private static void promise21Refusals() {
        BoatsCalledIn x = Check.willing(4);
        int[][] bad = {{0, 0}, {-1, 0}, {21, 0}, {1, -1}, {1, 2}, {Integer.MIN_VALUE, 1}, {Integer.MAX_VALUE, 1},
            {20, Integer.MIN_VALUE}, {20, Integer.MAX_VALUE}};
        for (int[] b : bad) {
            Check.due("chance(9, " + b[0] + ", " + b[1] + ")", x.chance(9, b[0], b[1]), NO);
        }
    }

    private static void promises22And23() {
        BoatsCalledIn x = Check.willing(4);
        Check.due("back to nothing", x.back(), STATE);
        Check.boat(x, 0, 1, 3, 0, 30);
        Check.boat(x, 1, 2, 4, 1, 31);
        Check.boat(x, 2, 3, 5, 2, 32);
        x.set(4, 0, 11);
        x.set(5, 0, 1);
        x.set(6, 0, 3);
        x.set(7, 0, 4);
        x.set(8, 0, 5);
        x.call(0);
        x.time(9);
        x.call(1);
        String before = Check.seen(x);
        int ways = x.fetch(4, 0);
        Check.due("image()", x.image(), 3);
        Check.unchanged("image", before, x);
        for (int what = 0; what < 4; what++) {
            x.set(what, 2, 6);
            x.set(what, 0, 6);
        }
        for (int what = 4; what < 9; what++) {
            x.set(what, 0, 6);
        }
        x.launch(4);
        x.force(0);
        Check.due("back()", x.back(), 3);
        Check.unchanged("image, changes and back", before, x);
        int[] lake = {11, 1, 3, 4, 4};
        Check.due("the launch fetches as it did", x.fetch(4, 0), ways);
        for (int what = 4; what < 9; what++) {
            Check.due("set(" + what + ", ..)", x.set(what, 0, 6), lake[what - 4]);
        }
        Check.due("back() again", x.back(), 3);
        Check.unchanged("back again", before, x);
        Check.due("tows are laid back again", x.set(6, 0, 1), 3);
    }

    private static void promises22And23Boats() {
        BoatsCalledIn x = Check.willing(4);
        Check.due("an image of nothing", x.image(), 0);
        Check.boat(x, 5, 3, 3, 0, 30);
        Check.boat(x, 1, 4, 4, 0, 30);
        Check.due("back to nothing", x.back(), 0);
        Check.due("the boats are gone", x.count(0), 0);
        Check.due("told of one that is gone", x.told(0, 0), BAD);
        Check.due("taken of one that is gone", x.taken(0, 0), -11);
        Check.due("another one", Check.boat(x, 3, 7, 9, 5, 50), 0);
        Check.due("its kind", x.told(0, 4), 3);
        Check.due("an image with it", x.image(), 1);
        for (int i = 1; i < 7; i++) {
            Check.boat(x, 0, 0, i, 0, 30);
        }
        Check.due("there are seven", x.boat(0, 0, 5000), -4);
        Check.due("six go", x.back(), 1);
        Check.due("its number", x.told(0, 3), 7);
        Check.due("there is room again", x.boat(2, 0, 5000), 1);
        Check.due("a newer image", x.image(), 2);
        x.launch(3);
        Check.due("back to the newer image", x.back(), 2);
        Check.due("both are on the lake", x.count(1), 2);
    }

    private static void promises22And23KeepNoMore() {
        BoatsCalledIn x = new BoatsCalledIn();
        x.image();
        Check.text(x, "price 1;hears 1;comes 1;");
        x.force(1);
        x.feed('p');
        x.sheet(2, 1, 3);
        x.cell(2, 0, 9);
        x.back();
        Check.due("the rule is laid back", x.count(9), 0);
        Check.due("texts stay", x.count(7), 2);
        Check.due("the tape stays", x.count(8), 1);
        Check.due("sheets stay", x.copy(2, 0, 2, 1, 2), 2);
        Check.due("a text that stayed", x.force(1), 0);
    }

    private static void promise24() {
        BoatsCalledIn x = Check.willing(4);
        Check.boat(x, 0, 0, 3, 0, 5);
        Check.boat(x, 0, 0, 7, 0, 5);
        Check.boat(x, 0, 0, 7, 0, 5);
        Check.boat(x, 4, 0, 7, 0, 5);
        Check.boat(x, 4, 0, 7, 0, 5);
        Check.boat(x, 4, 0, 7, 0, 5);
        x.set(8, 0, 9);
        x.call(0);
        x.call(1);
        x.call(2);
        x.time(13);
        x.feed('a');
        x.feed('b');
        Check.text(x, "");
        x.feed('c');
        int[] counts = {6, 3, 2, 1, 13, 4, 8, 2, 1, 1};
        for (int what = 0; what < 10; what++) {
            Check.due("count(" + what + ")", x.count(what), counts[what]);
        }
        int[] bad = {-1, 10, Integer.MIN_VALUE, Integer.MAX_VALUE};
        for (int what : bad) {
            Check.due("count(" + what + ")", x.count(what), BAD);
        }
    }
}
