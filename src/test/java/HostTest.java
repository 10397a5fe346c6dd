/** Promises 25 to 29: sheet, cell, copy, boats, taken. */
public final class HostTest {
    private static final int BAD = -2, NOTHING = -11, OUTSIDE = -12, OTHER = -13, BELOW = -14;

    public static void main(String[] args) {
        promise25();
        promise25Refusals();
        promise26();
        promise26Bits();
        promise27();
        promise27Refusals();
        promise28();
        promise28Refusals();
        promise28Edges();
        promise29();
        Check.end();
    }

    /** Item i of a sheet of shorts or ints, read as the NUMBER of a boat that goes again; -1, if it is none. */
    private static int item(BoatsCalledIn x, int sheet, int sort, int i) {
        x.image();
        x.sheet(3, sort, 3);
        x.copy(sheet, i, 3, 1, 1);
        x.cell(3, 2, 5000);
        int number = x.boats(3, sort, 0, 1) == 1 ? x.told(x.count(0) - 1, 3) : -1;
        x.back();
        return number;
    }

    private static void items(BoatsCalledIn x, int sheet, int sort, int... numbers) {
        for (int i = 0; i < numbers.length; i++) {
            Check.due("item " + i + " of sheet " + sheet, item(x, sheet, sort, i), numbers[i]);
        }
        Check.due("the sheet ends there", x.cell(sheet, numbers.length, 0), OUTSIDE);
    }

    private static void promise25() {
        BoatsCalledIn x = new BoatsCalledIn();
        for (int sheet = 0; sheet < 4; sheet++) {
            for (int sort = 0; sort < 3; sort++) {
                Check.due("sheet(" + sheet + ", " + sort + ", 40)", x.sheet(sheet, sort, 40), 1);
                Check.due("its last item", x.cell(sheet, 39, 1), 1);
                Check.due("behind it", x.cell(sheet, 40, 1), OUTSIDE);
                Check.due("sheet(.., 0)", x.sheet(sheet, sort, 0), 1);
                Check.due("it has no item", x.cell(sheet, 0, 1), OUTSIDE);
            }
            Check.due("missing", x.sheet(sheet, -1, sheet % 2 == 0 ? 41 : -1), 1);
            Check.due("nothing is there", x.cell(sheet, 0, 1), NOTHING);
            Check.due("missing again", x.sheet(sheet, -1, Integer.MIN_VALUE), 1);
        }
        Check.sheet(x, 0, 2, 7, 8, 9);
        items(x, 0, 2, 7, 8, 9);
        x.sheet(0, 2, 3);
        items(x, 0, 2, 0, 0, 0);
        Check.sheet(x, 0, 1, 1, 2, 3, 4);
        x.sheet(0, 1, 2);
        items(x, 0, 1, 0, 0);
        x.sheet(0, -1, 0);
        x.sheet(0, 1, 4);
        items(x, 0, 1, 0, 0, 0, 0);
    }

    private static void promise25Refusals() {
        BoatsCalledIn x = new BoatsCalledIn();
        Check.sheet(x, 0, 2, 5);
        int[][] bad = {{-1, 0, 1, BAD}, {4, 0, 1, BAD}, {0, -2, 1, BAD}, {0, 3, 1, BAD}, {0, 0, 41, BAD},
            {0, 0, Integer.MAX_VALUE, BAD}, {0, 0, -1, BELOW}, {0, 2, Integer.MIN_VALUE, BELOW}, {4, 0, -1, BAD},
            {0, 3, -1, BAD}, {4, -1, 0, BAD}, {Integer.MIN_VALUE, 0, 1, BAD}, {0, Integer.MAX_VALUE, 1, BAD},
            {Integer.MAX_VALUE, 0, 1, BAD}, {0, Integer.MIN_VALUE, 1, BAD}};
        for (int[] b : bad) {
            Check.due("sheet(" + b[0] + ", " + b[1] + ", " + b[2] + ")", x.sheet(b[0], b[1], b[2]), b[3]);
        }
        items(x, 0, 2, 5);
    }

    private static void promise26() {
        BoatsCalledIn x = new BoatsCalledIn();
        Check.sheet(x, 0, 2, 5, 6, 7);
        int[][] bad = {{-1, 0, BAD}, {4, 0, BAD}, {1, 0, NOTHING}, {1, -1, NOTHING}, {0, -1, OUTSIDE}, {0, 3, OUTSIDE},
            {0, Integer.MIN_VALUE, OUTSIDE}, {0, Integer.MAX_VALUE, OUTSIDE}, {Integer.MAX_VALUE, 0, BAD},
            {Integer.MIN_VALUE, 9, BAD}, {4, 99, BAD}};
        for (int[] b : bad) {
            Check.due("cell(" + b[0] + ", " + b[1] + ", 1)", x.cell(b[0], b[1], 1), b[2]);
        }
        items(x, 0, 2, 5, 6, 7);
        Check.due("cell(0, 1, 9)", x.cell(0, 1, 9), 1);
        items(x, 0, 2, 5, 9, 7);
    }

    private static void promise26Bits() {
        BoatsCalledIn x = new BoatsCalledIn();
        Check.sheet(x, 0, 1, 65536 + 7, -65536 + 4, 0x7fff0009, 65545);
        items(x, 0, 1, 7, 4, 9, 9);
        Check.sheet(x, 1, 2, 65536 + 7, 3);
        items(x, 1, 2, -1, 3);
        Check.sheet(x, 2, 1, 0, 0, 32767, 0, 0, 32768, 0, 0, 5000);
        Check.due("a short is below 0 from 32768 on", x.boats(2, 1, 0, 3), 2);
        BoatsCalledIn y = Check.willing(1);
        Check.boat(y, 0, 0, 0, 0, 5);
        Check.sheet(y, 0, 0, 256, 257, -256, 0xff01);
        Check.due("lowest 8 bits", y.heard(0), -1);
        Check.sheet(y, 0, 0, 0, 255);
        Check.due("255 is not 1", y.heard(0), 0);
    }

    private static void promise27() {
        BoatsCalledIn x = new BoatsCalledIn();
        Check.sheet(x, 0, 2, 1, 2, 3, 4, 5);
        x.sheet(1, 2, 4);
        Check.due("copy of some", x.copy(0, 1, 1, 0, 3), 3);
        items(x, 1, 2, 2, 3, 4, 0);
        Check.due("copy of none", x.copy(0, 5, 1, 4, 0), 0);
        Check.due("copy to its own end", x.copy(0, 0, 0, 1, 4), 4);
        items(x, 0, 2, 1, 1, 2, 3, 4);
        Check.due("copy to its own start", x.copy(0, 2, 0, 0, 3), 3);
        items(x, 0, 2, 2, 3, 4, 3, 4);
        Check.due("copy onto itself", x.copy(0, 0, 0, 0, 5), 5);
        items(x, 0, 2, 2, 3, 4, 3, 4);
        Check.sheet(x, 2, 1, 70000, 9);
        x.sheet(1, 1, 2);
        Check.due("copy of shorts", x.copy(2, 1, 1, 0, 1), 1);
        items(x, 1, 1, 9, 0);
        Check.sheet(x, 2, 0, 0, 1);
        x.sheet(1, 0, 2);
        Check.due("copy of bytes", x.copy(2, 0, 1, 0, 2), 2);
    }

    private static void promise27Refusals() {
        BoatsCalledIn x = new BoatsCalledIn();
        Check.sheet(x, 0, 2, 1, 2, 3, 4, 5);
        Check.sheet(x, 1, 2, 6, 7, 8);
        x.sheet(2, 1, 5);
        int big = Integer.MAX_VALUE;
        int[][] bad = {
            {-1, 0, 0, 0, 1, BAD}, {0, 0, 4, 0, 1, BAD}, {4, 0, 3, 0, 1, BAD}, {3, 0, -1, 0, 1, BAD},
            {3, 0, 0, 0, 1, NOTHING}, {0, 0, 3, 0, 1, NOTHING}, {3, 0, 3, 0, 0, NOTHING}, {3, 0, 0, 0, -1, NOTHING},
            {0, 0, 2, 0, 1, OTHER}, {2, 0, 0, 0, 0, OTHER}, {2, 0, 0, 0, -1, OTHER}, {2, 9, 0, 9, 1, OTHER},
            {0, -1, 1, 0, 1, OUTSIDE}, {0, 0, 1, -1, 1, OUTSIDE}, {0, 0, 1, 0, -1, OUTSIDE}, {0, 5, 1, 0, 1, OUTSIDE},
            {0, 6, 1, 0, 0, OUTSIDE}, {0, 0, 1, 4, 0, OUTSIDE}, {0, 0, 1, 0, 4, OUTSIDE}, {0, 3, 1, 0, 3, OUTSIDE},
            {0, 0, 1, 1, 3, OUTSIDE}, {0, big, 1, 0, 1, OUTSIDE}, {0, 0, 1, big, 1, OUTSIDE}, {0, 0, 1, 0, big, OUTSIDE},
            {0, 1, 1, 1, big, OUTSIDE}, {0, big, 1, big, big, OUTSIDE}, {0, Integer.MIN_VALUE, 1, 0, 1, OUTSIDE},
            {0, 0, 1, 0, Integer.MIN_VALUE, OUTSIDE}, {1, 0, 0, 5, 1, OUTSIDE}, {big, 0, 0, 0, 0, BAD}};
        for (int[] b : bad) {
            Check.due("copy(" + b[0] + ", " + b[1] + ", " + b[2] + ", " + b[3] + ", " + b[4] + ")",
                x.copy(b[0], b[1], b[2], b[3], b[4]), b[5]);
        }
        items(x, 0, 2, 1, 2, 3, 4, 5);
        items(x, 1, 2, 6, 7, 8);
    }

    private static void promise28() {
        BoatsCalledIn x = new BoatsCalledIn();
        Check.sheet(x, 0, 2, 99, 3, 1203, 60007, 6, 0, 5000, 5, 4709, 240999, 0, 10, 5000, 4, 5, 5000);
        Check.due("three of five", x.boats(0, 2, 1, 5), 3);
        int[][] told = {{12, 7, 60, 3, 3}, {47, 999, 240, 9, 5}, {0, 0, 5, 5, 4}};
        for (int boat = 0; boat < 3; boat++) {
            for (int what = 0; what < 5; what++) {
                Check.due("told(" + boat + ", " + what + ")", x.told(boat, what), told[boat][what]);
            }
        }
        Check.due("none", x.boats(0, 2, 0, 0), 0);
        Check.due("one that is none", x.boats(0, 2, 4, 1), 0);
        Check.sheet(x, 1, 1, 0, 0, 5000, 1, 0, 5000, 2, 0, 5000, 3, 0, 5000, 4, 0, 5000);
        Check.due("four have room", x.boats(1, 1, 0, 5), 4);
        Check.due("there are seven", x.count(0), 7);
        Check.due("the last one", x.told(6, 4), 3);
        Check.due("none has room", x.boats(1, 1, 0, 5), 0);
        Check.due("none has room, and beyond the end", x.boats(1, 1, 0, 6), OUTSIDE);
    }

    private static void promise28Refusals() {
        BoatsCalledIn x = new BoatsCalledIn();
        x.sheet(0, 1, 6);
        x.sheet(1, 2, 2);
        int big = Integer.MAX_VALUE;
        int low = Integer.MIN_VALUE;
        int[][] bad = {
            {-1, 1, 0, 1, BAD}, {4, 1, 0, 1, BAD}, {0, -1, 0, 1, BAD}, {0, 3, 0, 1, BAD}, {0, 1, 0, -1, BAD},
            {0, 1, 0, 8, BAD}, {0, 0, 0, 8, BAD}, {2, 0, 0, 8, BAD}, {2, 3, 0, 0, BAD}, {2, -1, 0, 0, BAD},
            {0, 0, 0, 1, OTHER}, {0, 2, 0, 0, OTHER}, {1, 1, 99, 1, OTHER}, {2, 0, 0, 0, NOTHING}, {2, 2, -1, 7, NOTHING},
            {0, 1, -1, 1, OUTSIDE}, {0, 1, 6, 1, OUTSIDE}, {0, 1, 4, 1, OUTSIDE}, {0, 1, 3, 2, OUTSIDE},
            {0, 1, 0, 3, OUTSIDE}, {1, 2, 0, 1, OUTSIDE}, {0, 1, big, 1, OUTSIDE}, {0, 1, big - 2, 7, OUTSIDE},
            {0, 1, low, 7, OUTSIDE}, {0, 1, -3, 7, OUTSIDE}, {big, 0, 0, 0, BAD}, {0, big, 0, 0, BAD}, {0, 0, 0, low, BAD}};
        for (int[] b : bad) {
            Check.due("boats(" + b[0] + ", " + b[1] + ", " + b[2] + ", " + b[3] + ")",
                x.boats(b[0], b[1], b[2], b[3]), b[4]);
        }
        Check.due("none came", x.count(0), 0);
        Check.due("none from afar", x.boats(0, 1, big, 0), 0);
        Check.due("none of none", x.boats(0, 1, 6, 0), 0);
    }

    private static void promise28Edges() {
        BoatsCalledIn x = new BoatsCalledIn();
        Check.sheet(x, 0, 2, 0, 0, 5000, 1, 0, 5000, 2, 0);
        Check.due("the third one ends outside", x.boats(0, 2, 0, 3), OUTSIDE);
        Check.due("what stood ahead came", x.count(0), 2);
        Check.due("just so many", x.boats(0, 2, 0, 2), 2);
        Check.due("four are there", x.count(0), 4);
        x.sheet(1, 0, 40);
        Check.due("bytes never make a boat", x.boats(1, 0, 0, 7), 0);
        x.sheet(1, 2, 21);
        Check.due("seven of nothing", x.boats(1, 2, 0, 7), 0);
    }

    private static void promise29() {
        BoatsCalledIn x = new BoatsCalledIn();
        int[] bad = {-1, 6, Integer.MIN_VALUE, Integer.MAX_VALUE};
        for (int k : bad) {
            Check.due("taken(0, " + k + ")", x.taken(0, k), BAD);
        }
        Check.due("taken of none", x.taken(0, 0), NOTHING);
        boolean[][] under = {
            {true, false, false, false, false, false}, {true, true, false, false, false, false},
            {true, false, true, false, false, false}, {true, true, false, true, false, false},
            {true, false, true, false, true, false}, {true, false, false, false, false, true}};
        for (int kind = 0; kind < 6; kind++) {
            Check.boat(x, kind, kind + 2, 3, 0, 30);
            for (int k = 0; k < 6; k++) {
                Check.due("taken(" + kind + ", " + k + ")", x.taken(kind, k), under[kind][k] ? kind + 2 : OTHER);
            }
        }
        int[] none = {-1, 6, 7, Integer.MIN_VALUE, Integer.MAX_VALUE};
        for (int boat : none) {
            Check.due("taken(" + boat + ", 5)", x.taken(boat, 5), NOTHING);
            Check.due("taken(" + boat + ", 6)", x.taken(boat, 6), BAD);
        }
    }
}
