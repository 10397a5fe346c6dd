/** The edges that the document names of sheets and of boats taken for a kind, promises 25 to 29: one test for each sentence. */
public final class HostEdgesTest {
    private static final int BAD = -2, NOTHING = -11, OUTSIDE = -12, OTHER = -13, BELOW = -14;
    private static final int LOW = Integer.MIN_VALUE, HIGH = Integer.MAX_VALUE;

    public static void main(String[] args) {
        sheetsAre0To3();
        sheetsAreMissingAtFirst();
        sortsAre0To2();
        aRowIsOf40AtMost();
        aRowMayBeEmpty();
        aSizeBelow0();
        missingWhateverN();
        allAre0();
        aSheetBecomesAnotherRow();
        sheetIsBadAheadOfBelow();
        aRefusedSheetStays();
        itemsAreFrom0();
        cellOfNoSuchSheet();
        cellOfAMissingSheet();
        cellOfAnEmptySheet();
        cellIsBadThenNothingThenOutside();
        bytesTakeTheLowest8Bits();
        shortsTakeTheLowest16Bits();
        intsTakeAll32Bits();
        shortsHaveASign();
        copyOfNone();
        copyToTheEnd();
        copyAsTheyWere();
        copyOntoItself();
        copyOfEachSort();
        copyOfNoSuchSheet();
        copyOfAMissingSheet();
        copyOfUnlikeSorts();
        copyFromOutside();
        copyToOutside();
        copyOfABelow0();
        copyOfTooMany();
        copyThatWraps();
        copyIsBadThenNothingThenOtherThenOutside();
        aRefusedCopyChangesNothing();
        boatsThreeByThree();
        boatsFromOneOn();
        boatsOfNone();
        boatsOfSeven();
        othersAreLeftOut();
        boatsWhenThereIsNoRoom();
        boatsOfEachSort();
        boatsRefusesTheSheet();
        boatsRefusesTheSort();
        boatsRefusesN();
        boatsOfAnotherSort();
        boatsOfAMissingSheet();
        boatsFromOutside();
        whatStoodAheadCame();
        boatsThatWrap();
        boatsIsBadThenOtherThenNothingThenOutside();
        takenForItsOwnKind();
        takenForOneUnder();
        takenForAnotherKind();
        takenByOthersBetween();
        takenTellsItsNumber();
        takenInAnyState();
        takenOfKinds0To5();
        takenOfNoSuchBoat();
        takenIsBadThenNothingThenOther();
        Check.end();
    }

    /** Item i of a sheet of shorts or ints, if it is a cell and a number, or a time: -1, if it is neither (9 calls at most). */
    private static int item(BoatsCalledIn x, int sheet, int sort, int i) {
        x.image();
        x.sheet(3, sort, 3);
        x.copy(sheet, i, 3, 1, 1);
        x.cell(3, 2, 5000);
        int last = x.count(0);
        int item = -1;
        if (x.boats(3, sort, 0, 1) == 1) {
            item = 100 * x.told(last, 0) + x.told(last, 3);
        } else {
            x.cell(3, 1, 0);
            x.copy(sheet, i, 3, 2, 1);
            item = x.boats(3, sort, 0, 1) == 1 ? 1000 * x.told(last, 2) + x.told(last, 1) : -1;
        }
        x.back();
        return item;
    }

    private static void items(BoatsCalledIn x, int sheet, int sort, int... numbers) {
        for (int i = 0; i < numbers.length; i++) {
            Check.due("item " + i + " of sheet " + sheet, item(x, sheet, sort, i), numbers[i]);
        }
        Check.due("sheet " + sheet + " ends there", x.cell(sheet, numbers.length, 0), OUTSIDE);
    }

    // SHEETS 0 .. 3; BAD: no such SHEET
    private static void sheetsAre0To3() {
        BoatsCalledIn x = new BoatsCalledIn();
        for (int sheet = 0; sheet < 4; sheet++) {
            Check.due("sheet " + sheet, x.sheet(sheet, 2, 2), 1);
            Check.due("cell of " + sheet, x.cell(sheet, 1, sheet + 5), 1);
        }
        int[] bad = {-1, 4, 5, LOW, HIGH};
        for (int sheet : bad) {
            Check.due("sheet " + sheet, x.sheet(sheet, 2, 2), BAD);
            Check.due("sheet " + sheet + ", missing", x.sheet(sheet, -1, 2), BAD);
        }
        for (int sheet = 0; sheet < 3; sheet++) {
            items(x, sheet, 2, 0, sheet + 5);
        }
    }

    // or missing (as all are at first)
    private static void sheetsAreMissingAtFirst() {
        for (int sheet = 0; sheet < 4; sheet++) {
            BoatsCalledIn x = new BoatsCalledIn();
            Check.due("heard", x.heard(sheet), NOTHING);
            Check.due("cell", x.cell(sheet, 0, 0), NOTHING);
            Check.due("copy of it", x.copy(sheet, 0, sheet, 0, 0), NOTHING);
            Check.due("boats", x.boats(sheet, 0, 0, 0), NOTHING);
            x.sheet(sheet, 0, 1);
            for (int other = 0; other < 4; other++) {
                Check.due("the others are missing yet", x.cell(other, 0, 0), other == sheet ? 1 : NOTHING);
            }
        }
    }

    // of sort 0 bytes, 1 shorts, 2 ints; BAD: no such .. sort
    private static void sortsAre0To2() {
        BoatsCalledIn x = new BoatsCalledIn();
        int[] bad = {-2, 3, 4, LOW, HIGH};
        for (int sort : bad) {
            Check.due("sort " + sort, x.sheet(0, sort, 1), BAD);
        }
        Check.due("it is missing yet", x.cell(0, 0, 0), NOTHING);
        for (int sort = 0; sort < 3; sort++) {
            Check.due("sort " + sort, x.sheet(0, sort, 1), 1);
            for (int other = 0; other < 3; other++) {
                Check.due("taken for " + other, x.boats(0, other, 0, 0), other == sort ? 0 : OTHER);
            }
        }
    }

    // BAD: .. n above 40
    private static void aRowIsOf40AtMost() {
        BoatsCalledIn x = new BoatsCalledIn();
        int[] bad = {41, 42, 80, HIGH};
        for (int sort = 0; sort < 3; sort++) {
            for (int n : bad) {
                Check.due("a row of " + n, x.sheet(0, sort, n), BAD);
            }
            Check.due("a row of 40", x.sheet(1, sort, 40), 1);
            Check.due("its last item", x.cell(1, 39, 7), 1);
            Check.due("behind it", x.cell(1, 40, 7), OUTSIDE);
        }
        Check.due("none came of those", x.cell(0, 0, 0), NOTHING);
    }

    // a row of n: of 0
    private static void aRowMayBeEmpty() {
        BoatsCalledIn x = new BoatsCalledIn();
        for (int sort = 0; sort < 3; sort++) {
            Check.due("a row of 0", x.sheet(0, sort, 0), 1);
            Check.due("it isn't missing", x.cell(0, 0, 1), OUTSIDE);
            Check.due("nothing is heard", x.heard(0), -1);
            Check.due("a row of 1", x.sheet(0, sort, 1), 1);
            Check.due("it has an item", x.cell(0, 0, 1), 1);
            Check.due("it has no other", x.cell(0, 1, 1), OUTSIDE);
        }
    }

    // -14 a size below 0
    private static void aSizeBelow0() {
        BoatsCalledIn x = new BoatsCalledIn();
        int[] below = {-1, -2, -40, LOW};
        for (int sort = 0; sort < 3; sort++) {
            for (int n : below) {
                Check.due("a row of " + n, x.sheet(2, sort, n), BELOW);
            }
        }
        Check.due("it is missing yet", x.cell(2, 0, 0), NOTHING);
    }

    // missing (sort -1: n does not matter): 1
    private static void missingWhateverN() {
        BoatsCalledIn x = new BoatsCalledIn();
        int[] any = {0, 1, 40, 41, -1, LOW, HIGH};
        for (int n : any) {
            x.sheet(0, 2, 3);
            Check.due("it is there", x.cell(0, 2, 1), 1);
            Check.due("missing, by " + n, x.sheet(0, -1, n), 1);
            Check.due("it is missing", x.cell(0, 0, 1), NOTHING);
            Check.due("missing again, by " + n, x.sheet(0, -1, n), 1);
        }
    }

    // all 0
    private static void allAre0() {
        BoatsCalledIn x = new BoatsCalledIn();
        for (int sort = 1; sort < 3; sort++) {
            Check.sheet(x, 0, sort, 4, 5, 6);
            x.sheet(0, sort, 3);
            items(x, 0, sort, 0, 0, 0);
            Check.sheet(x, 0, sort, 4, 5, 6);
            x.sheet(0, -1, 0);
            x.sheet(0, sort, 4);
            items(x, 0, sort, 0, 0, 0, 0);
        }
    }

    // A SHEET becomes a row of n of a sort: another n, another sort
    private static void aSheetBecomesAnotherRow() {
        BoatsCalledIn x = new BoatsCalledIn();
        Check.sheet(x, 0, 2, 4, 5, 6, 7);
        x.sheet(0, 2, 2);
        items(x, 0, 2, 0, 0);
        Check.sheet(x, 0, 2, 4, 5, 6, 7);
        x.sheet(0, 1, 5);
        items(x, 0, 1, 0, 0, 0, 0, 0);
        Check.due("it is of shorts", x.boats(0, 2, 0, 0), OTHER);
        x.sheet(0, 2, 1);
        x.sheet(0, 2, 6);
        items(x, 0, 2, 0, 0, 0, 0, 0, 0);
    }

    // BAD: no such SHEET, sort; n above 40; -14
    private static void sheetIsBadAheadOfBelow() {
        BoatsCalledIn x = new BoatsCalledIn();
        Check.due("no such sheet, a size below 0", x.sheet(4, 2, -1), BAD);
        Check.due("no such sort, a size below 0", x.sheet(0, 3, -1), BAD);
        Check.due("no such sort, a size below 0", x.sheet(0, -2, -1), BAD);
        Check.due("no such sheet nor sort", x.sheet(-1, -2, -1), BAD);
        Check.due("a size below 0", x.sheet(0, 0, -1), BELOW);
        Check.due("a size too great", x.sheet(0, 0, 41), BAD);
    }

    // Refusals .. change nothing
    private static void aRefusedSheetStays() {
        BoatsCalledIn x = new BoatsCalledIn();
        Check.sheet(x, 0, 2, 4, 5);
        x.sheet(0, 2, 41);
        x.sheet(0, 2, -1);
        x.sheet(0, 3, 1);
        x.sheet(0, -2, 1);
        x.sheet(0, 1, -1);
        x.sheet(4, 1, 1);
        items(x, 0, 2, 4, 5);
        Check.due("its sort", x.boats(0, 2, 0, 0), 0);
    }

    // cell: Item i .. -12
    private static void itemsAreFrom0() {
        BoatsCalledIn x = new BoatsCalledIn();
        Check.sheet(x, 0, 2, 4, 5, 6);
        int[] outside = {-1, 3, 4, 39, 40, LOW, HIGH};
        for (int i : outside) {
            Check.due("cell " + i, x.cell(0, i, 9), OUTSIDE);
        }
        items(x, 0, 2, 4, 5, 6);
        Check.due("cell 0", x.cell(0, 0, 7), 1);
        Check.due("cell 2", x.cell(0, 2, 8), 1);
        items(x, 0, 2, 7, 5, 8);
    }

    // cell: BAD: no such SHEET
    private static void cellOfNoSuchSheet() {
        BoatsCalledIn x = new BoatsCalledIn();
        for (int sheet = 0; sheet < 4; sheet++) {
            x.sheet(sheet, 2, 40);
        }
        int[] bad = {-1, 4, 5, LOW, HIGH};
        for (int sheet : bad) {
            Check.due("cell of sheet " + sheet, x.cell(sheet, 0, 1), BAD);
        }
    }

    // cell: -11
    private static void cellOfAMissingSheet() {
        BoatsCalledIn x = new BoatsCalledIn();
        x.sheet(0, 2, 4);
        x.sheet(0, -1, 4);
        for (int i = 0; i < 4; i++) {
            Check.due("cell " + i, x.cell(0, i, 1), NOTHING);
        }
    }

    // cell: -12
    private static void cellOfAnEmptySheet() {
        BoatsCalledIn x = new BoatsCalledIn();
        x.sheet(0, 1, 0);
        int[] any = {0, 1, -1, LOW, HIGH};
        for (int i : any) {
            Check.due("cell " + i, x.cell(0, i, 1), OUTSIDE);
        }
    }

    // BAD: no such SHEET; -11; -12
    private static void cellIsBadThenNothingThenOutside() {
        BoatsCalledIn x = new BoatsCalledIn();
        Check.due("no such sheet, outside", x.cell(4, -1, 1), BAD);
        Check.due("missing, outside", x.cell(0, -1, 1), NOTHING);
        Check.due("missing, far outside", x.cell(0, 40, 1), NOTHING);
        x.sheet(0, 0, 1);
        Check.due("outside", x.cell(0, 1, 1), OUTSIDE);
    }

    // (of bytes .. its lowest 8 .. bits)
    private static void bytesTakeTheLowest8Bits() {
        BoatsCalledIn x = Check.willing(1);
        Check.boat(x, 0, 0, 0, 0, 5);
        Check.boat(x, 0, 0, 0, 0, 5);
        int[] ones = {1, 257, -255, 0xff01, 0x12345601, LOW + 1};
        for (int v : ones) {
            Check.sheet(x, 0, 0, v, v);
            Check.due(v + " is 1", x.heard(0), -1);
        }
        int[] others = {2, 0, 128, 129, 255, 127, -1, 65535, 258};
        for (int v : others) {
            Check.sheet(x, 0, 0, 1, v);
            Check.due(v + " isn't 1", x.heard(0), 0);
        }
        Check.sheet(x, 0, 0, 256, 65537, -256, 1);
        Check.due("256, -256 are 0", x.heard(0), -1);
    }

    // (.. shorts its lowest .. 16 bits)
    private static void shortsTakeTheLowest16Bits() {
        BoatsCalledIn x = new BoatsCalledIn();
        Check.sheet(x, 0, 1, 65536 + 7, -65536 + 8, 0x7fff0009, 32767, 256, 65536 + 31999, 4709);
        items(x, 0, 1, 7, 8, 9, 32767, -1, 31999, 4709);
        Check.sheet(x, 0, 1, LOW, LOW + 5, 65536 * 3);
        items(x, 0, 1, 0, 5, 0);
    }

    // cell: Item i of a SHEET becomes v: of ints all of it
    private static void intsTakeAll32Bits() {
        BoatsCalledIn x = new BoatsCalledIn();
        Check.sheet(x, 0, 2, 65536 + 7, 240999, 65536, -65536, 256 + 44, LOW, HIGH);
        items(x, 0, 2, 65543, 240999, 65536, -1, 300, -1, -1);
    }

    // shorts: from 32768 on they are below 0
    private static void shortsHaveASign() {
        BoatsCalledIn x = new BoatsCalledIn();
        Check.sheet(x, 0, 1, 32767, 32768, 40000, 65535, -1);
        items(x, 0, 1, 32767, -1, -1, -1, -1);
    }

    // copy: n numbers: none
    private static void copyOfNone() {
        BoatsCalledIn x = new BoatsCalledIn();
        Check.sheet(x, 0, 2, 1, 2, 3);
        x.sheet(1, 2, 2);
        x.sheet(2, 2, 0);
        int[][] made = {{0, 0, 1, 0}, {0, 3, 1, 2}, {0, 3, 2, 0}, {2, 0, 0, 0}, {2, 0, 0, 3}, {2, 0, 2, 0}, {0, 3, 0, 3}};
        for (int[] m : made) {
            Check.due("copy of none", x.copy(m[0], m[1], m[2], m[3], 0), 0);
        }
        int[][] outside = {{0, 4, 1, 0}, {0, 0, 1, 3}, {0, -1, 1, 0}, {0, 0, 1, -1}, {2, 1, 0, 0}, {0, 0, 2, 1}};
        for (int[] m : outside) {
            Check.due("copy of none, outside", x.copy(m[0], m[1], m[2], m[3], 0), OUTSIDE);
        }
        items(x, 0, 2, 1, 2, 3);
        items(x, 1, 2, 0, 0);
    }

    // from item i on, come to another one's item j on: n
    private static void copyToTheEnd() {
        BoatsCalledIn x = new BoatsCalledIn();
        Check.sheet(x, 0, 2, 1, 2, 3, 4);
        x.sheet(1, 2, 6);
        Check.due("all to the end", x.copy(0, 0, 1, 2, 4), 4);
        items(x, 1, 2, 0, 0, 1, 2, 3, 4);
        Check.due("the last one to the start", x.copy(0, 3, 1, 0, 1), 1);
        items(x, 1, 2, 4, 0, 1, 2, 3, 4);
        items(x, 0, 2, 1, 2, 3, 4);
        x.sheet(0, 2, 40);
        x.sheet(1, 2, 40);
        x.cell(0, 39, 5);
        Check.due("forty", x.copy(0, 0, 1, 0, 40), 40);
        Check.due("the last of forty", item(x, 1, 2, 39), 5);
    }

    // (as they were): within one SHEET, over one another
    private static void copyAsTheyWere() {
        BoatsCalledIn x = new BoatsCalledIn();
        Check.sheet(x, 0, 2, 1, 2, 3, 4, 5);
        Check.due("one place on", x.copy(0, 0, 0, 1, 4), 4);
        items(x, 0, 2, 1, 1, 2, 3, 4);
        Check.sheet(x, 0, 2, 1, 2, 3, 4, 5);
        Check.due("one place back", x.copy(0, 1, 0, 0, 4), 4);
        items(x, 0, 2, 2, 3, 4, 5, 5);
        Check.sheet(x, 0, 2, 1, 2, 3, 4, 5);
        Check.due("two places on", x.copy(0, 0, 0, 2, 3), 3);
        items(x, 0, 2, 1, 2, 1, 2, 3);
    }

    // .. onto their own places
    private static void copyOntoItself() {
        BoatsCalledIn x = new BoatsCalledIn();
        Check.sheet(x, 0, 1, 1, 2, 3);
        Check.due("all", x.copy(0, 0, 0, 0, 3), 3);
        Check.due("the last", x.copy(0, 2, 0, 2, 1), 1);
        items(x, 0, 1, 1, 2, 3);
    }

    // copy: of bytes, shorts, ints
    private static void copyOfEachSort() {
        BoatsCalledIn x = Check.willing(1);
        Check.sheet(x, 0, 1, 31999, 7);
        x.sheet(1, 1, 2);
        Check.due("shorts", x.copy(0, 0, 1, 0, 2), 2);
        items(x, 1, 1, 31999, 7);
        Check.sheet(x, 0, 2, 65543, 240999);
        x.sheet(1, 2, 2);
        Check.due("ints", x.copy(0, 0, 1, 0, 2), 2);
        items(x, 1, 2, 65543, 240999);
        Check.boat(x, 0, 0, 0, 0, 5);
        Check.boat(x, 4, 0, 47, 0, 5);
        Check.sheet(x, 0, 0, 0, 1, 1, 0);
        x.sheet(1, 0, 2);
        Check.due("bytes", x.copy(0, 2, 1, 0, 2), 2);
        Check.due("the bytes tell the same", x.heard(1), -1);
        Check.due("bytes the wrong way", x.copy(0, 1, 1, 0, 2), 2);
        Check.due("the bytes tell otherwise", x.heard(1), 0);
    }

    // copy: BAD: no such SHEET
    private static void copyOfNoSuchSheet() {
        BoatsCalledIn x = new BoatsCalledIn();
        for (int sheet = 0; sheet < 4; sheet++) {
            x.sheet(sheet, 2, 4);
        }
        int[] bad = {-1, 4, 5, LOW, HIGH};
        for (int sheet : bad) {
            Check.due("copy of sheet " + sheet, x.copy(sheet, 0, 0, 0, 1), BAD);
            Check.due("copy to sheet " + sheet, x.copy(0, 0, sheet, 0, 1), BAD);
            Check.due("copy of and to sheet " + sheet, x.copy(sheet, 0, sheet, 0, 1), BAD);
        }
    }

    // copy: -11
    private static void copyOfAMissingSheet() {
        BoatsCalledIn x = new BoatsCalledIn();
        x.sheet(0, 2, 4);
        Check.due("of one", x.copy(1, 0, 0, 0, 1), NOTHING);
        Check.due("to one", x.copy(0, 0, 1, 0, 1), NOTHING);
        Check.due("of and to one", x.copy(1, 0, 1, 0, 1), NOTHING);
        Check.due("of one to another", x.copy(1, 0, 2, 0, 1), NOTHING);
        Check.due("none of one", x.copy(1, 0, 0, 0, 0), NOTHING);
    }

    // copy: -13: they are of unlike sorts
    private static void copyOfUnlikeSorts() {
        BoatsCalledIn x = new BoatsCalledIn();
        for (int sheet = 0; sheet < 3; sheet++) {
            x.sheet(sheet, sheet, 4);
        }
        for (int sheet = 0; sheet < 3; sheet++) {
            for (int other = 0; other < 3; other++) {
                Check.due("of " + sheet + " to " + other, x.copy(sheet, 0, other, 0, 4), sheet == other ? 4 : OTHER);
                Check.due("none of " + sheet + " to " + other, x.copy(sheet, 0, other, 0, 0), sheet == other ? 0 : OTHER);
            }
        }
    }

    private static BoatsCalledIn fiveAndThree() {
        BoatsCalledIn x = new BoatsCalledIn();
        Check.sheet(x, 0, 2, 1, 2, 3, 4, 5);
        Check.sheet(x, 1, 2, 6, 7, 8);
        return x;
    }

    private static void refusedCopies(int[][] made) {
        BoatsCalledIn x = fiveAndThree();
        for (int[] m : made) {
            String call = "copy(0, " + m[0] + ", 1, " + m[1] + ", " + m[2] + ")";
            Check.due(call, x.copy(0, m[0], 1, m[1], m[2]), OUTSIDE);
        }
        items(x, 0, 2, 1, 2, 3, 4, 5);
        items(x, 1, 2, 6, 7, 8);
    }

    // copy: -12: from item i on
    private static void copyFromOutside() {
        refusedCopies(new int[][] {{-1, 0, 1}, {5, 0, 1}, {6, 0, 0}, {4, 0, 2}, {3, 0, 3}, {-1, 0, 0}, {LOW, 0, 1}, {HIGH, 0, 1}});
    }

    // copy: -12: to item j on
    private static void copyToOutside() {
        refusedCopies(new int[][] {{0, -1, 1}, {0, 3, 1}, {0, 4, 0}, {0, 2, 2}, {0, 1, 3}, {0, 0, 4}, {0, LOW, 1}, {0, HIGH, 1}});
        BoatsCalledIn x = fiveAndThree();
        Check.due("from the shorter one to the longer one's end", x.copy(1, 0, 0, 2, 3), 3);
        Check.due("behind it", x.copy(1, 0, 0, 3, 3), OUTSIDE);
        items(x, 0, 2, 1, 2, 6, 7, 8);
    }

    // -12 (also with n below 0)
    private static void copyOfABelow0() {
        refusedCopies(new int[][] {{0, 0, -1}, {2, 2, -1}, {5, 3, -1}, {1, 1, -2}, {0, 0, LOW}, {5, 3, LOW}, {1, 1, LOW}});
    }

    // copy: -12: n
    private static void copyOfTooMany() {
        refusedCopies(new int[][] {{0, 0, 6}, {0, 0, 5}, {0, 0, 40}, {0, 0, 41}, {0, 0, HIGH}});
    }

    // copy: -12: though i and n together wrap
    private static void copyThatWraps() {
        refusedCopies(new int[][] {{1, 0, HIGH}, {0, 1, HIGH}, {5, 3, HIGH}, {HIGH, HIGH, HIGH}, {HIGH, 0, 2}, {0, HIGH, 2},
            {HIGH, 0, HIGH}, {LOW, LOW, LOW}, {LOW, 0, HIGH}, {-1, -1, 3}});
    }

    // BAD: no such SHEET; -11; -13: they are of unlike sorts; -12
    private static void copyIsBadThenNothingThenOtherThenOutside() {
        BoatsCalledIn x = fiveAndThree();
        x.sheet(2, 1, 3);
        Check.due("no such sheet, a missing one", x.copy(3, 0, 4, 0, -1), BAD);
        Check.due("a missing one, no such sheet", x.copy(-1, 0, 3, 0, -1), BAD);
        Check.due("missing, outside", x.copy(3, 9, 0, 9, 1), NOTHING);
        Check.due("to a missing one, outside", x.copy(2, 9, 3, 9, -1), NOTHING);
        Check.due("unlike, outside", x.copy(2, 9, 0, 9, -1), OTHER);
        Check.due("outside", x.copy(1, 9, 0, 9, 1), OUTSIDE);
    }

    // Refusals .. change nothing
    private static void aRefusedCopyChangesNothing() {
        BoatsCalledIn x = fiveAndThree();
        x.copy(0, 0, 1, 0, 4);
        x.copy(0, 3, 1, 0, 3);
        x.copy(0, 0, 1, 2, 2);
        x.copy(0, 0, 0, 3, 3);
        items(x, 0, 2, 1, 2, 3, 4, 5);
        items(x, 1, 2, 6, 7, 8);
    }

    // boats: three by three (as of boat())
    private static void boatsThreeByThree() {
        BoatsCalledIn x = new BoatsCalledIn();
        Check.sheet(x, 0, 2, 3, 1204, 60007, 5, 4709, 240999, 0, 0, 5000);
        Check.due("three", x.boats(0, 2, 0, 3), 3);
        int[][] told = {{12, 7, 60, 4, 3, 0, -1}, {47, 999, 240, 9, 5, 0, -1}, {0, 0, 5, 0, 0, 0, -1}};
        for (int boat = 0; boat < 3; boat++) {
            for (int what = 0; what < 7; what++) {
                Check.due("told " + what + " of " + boat, x.told(boat, what), told[boat][what]);
            }
        }
    }

    // from one on
    private static void boatsFromOneOn() {
        BoatsCalledIn x = new BoatsCalledIn();
        Check.sheet(x, 0, 2, 9, 9, 2, 101, 5001, 4, 202, 6002);
        Check.due("one", x.boats(0, 2, 2, 1), 1);
        Check.due("its kind", x.told(0, 4), 2);
        Check.due("two", x.boats(0, 2, 2, 2), 2);
        Check.due("kind of the last", x.told(2, 4), 4);
        Check.due("its cell", x.told(2, 0), 2);
        Check.due("from the last row on", x.boats(0, 2, 5, 1), 1);
        Check.due("its kind, too", x.told(3, 4), 4);
        Check.due("from between", x.boats(0, 2, 1, 1), 0);
    }

    // n of them (0 ..)
    private static void boatsOfNone() {
        BoatsCalledIn x = new BoatsCalledIn();
        Check.sheet(x, 0, 2, 0, 0, 5000);
        Check.due("none", x.boats(0, 2, 0, 0), 0);
        x.sheet(1, 0, 0);
        Check.due("none of an empty one", x.boats(1, 0, 0, 0), 0);
        Check.due("no boats", x.count(0), 0);
    }

    // .. (.. 7)
    private static void boatsOfSeven() {
        BoatsCalledIn x = new BoatsCalledIn();
        x.sheet(0, 2, 21);
        for (int i = 0; i < 7; i++) {
            x.cell(0, 3 * i, i % 6);
            x.cell(0, 3 * i + 1, 100 * i);
            x.cell(0, 3 * i + 2, 5000);
        }
        Check.due("seven", x.boats(0, 2, 0, 7), 7);
        for (int i = 0; i < 7; i++) {
            Check.due("cell of " + i, x.told(i, 0), i);
        }
    }

    // how many came (others are left out)
    private static void othersAreLeftOut() {
        BoatsCalledIn x = new BoatsCalledIn();
        Check.sheet(x, 0, 2, 6, 0, 5000, 0, 100, 5000, 0, 4800, 5000, 0, 10, 5000, 1, 200, 5000, 0, 0, 4999, 0, 0, 241000);
        Check.due("two of seven", x.boats(0, 2, 0, 7), 2);
        Check.due("boats", x.count(0), 2);
        Check.due("cell of the first", x.told(0, 0), 1);
        Check.due("cell of the second", x.told(1, 0), 2);
        Check.sheet(x, 0, 2, -1, 0, 5000, 0, -1, 5000, 0, 0, -1, LOW, LOW, LOW, HIGH, HIGH, HIGH);
        Check.due("none of five", x.boats(0, 2, 0, 5), 0);
    }

    // (others are left out): those for which there is no room
    private static void boatsWhenThereIsNoRoom() {
        BoatsCalledIn x = new BoatsCalledIn();
        for (int i = 0; i < 5; i++) {
            Check.boat(x, 0, 0, 0, 0, 5);
        }
        Check.sheet(x, 0, 2, 1, 100, 5000, 6, 0, 5000, 2, 200, 5000, 3, 300, 5000);
        Check.due("two of four", x.boats(0, 2, 0, 4), 2);
        Check.due("seven boats", x.count(0), 7);
        Check.due("the sixth", x.told(5, 4), 1);
        Check.due("the seventh", x.told(6, 4), 2);
        Check.due("none has room", x.boats(0, 2, 0, 4), 0);
        Check.due("no room, and outside", x.boats(0, 2, 0, 5), OUTSIDE);
    }

    // a SHEET that is taken for one of a sort
    private static void boatsOfEachSort() {
        BoatsCalledIn x = new BoatsCalledIn();
        Check.sheet(x, 0, 0, 0, 0, 5000);
        Check.due("by bytes there is no time of 5000", x.boats(0, 0, 0, 1), 0);
        Check.sheet(x, 0, 1, 0, 0, 5000);
        Check.due("by shorts", x.boats(0, 1, 0, 1), 1);
        Check.sheet(x, 0, 2, 0, 0, 5000);
        Check.due("by ints", x.boats(0, 2, 0, 1), 1);
    }

    // boats: BAD: no such SHEET
    private static void boatsRefusesTheSheet() {
        BoatsCalledIn x = new BoatsCalledIn();
        for (int sheet = 0; sheet < 4; sheet++) {
            Check.sheet(x, sheet, 2, 0, 0, 5000);
            Check.due("sheet " + sheet, x.boats(sheet, 2, 0, 1), 1);
        }
        int[] bad = {-1, 4, 5, LOW, HIGH};
        for (int sheet : bad) {
            Check.due("sheet " + sheet, x.boats(sheet, 2, 0, 1), BAD);
        }
    }

    // boats: BAD: no such .. sort
    private static void boatsRefusesTheSort() {
        BoatsCalledIn x = new BoatsCalledIn();
        Check.sheet(x, 0, 2, 0, 0, 5000);
        int[] bad = {-2, -1, 3, 4, LOW, HIGH};
        for (int sort : bad) {
            Check.due("sort " + sort, x.boats(0, sort, 0, 1), BAD);
            Check.due("sort " + sort + " of a missing one", x.boats(1, sort, 0, 1), BAD);
        }
        Check.due("no boats", x.count(0), 0);
    }

    // boats: BAD: no such .. n
    private static void boatsRefusesN() {
        BoatsCalledIn x = new BoatsCalledIn();
        x.sheet(0, 2, 40);
        int[] bad = {-1, 8, 9, LOW, HIGH};
        for (int n : bad) {
            Check.due("n " + n, x.boats(0, 2, 0, n), BAD);
        }
        Check.due("n 7", x.boats(0, 2, 0, 7), 0);
        Check.due("n 0", x.boats(0, 2, 0, 0), 0);
    }

    // boats: -13
    private static void boatsOfAnotherSort() {
        BoatsCalledIn x = new BoatsCalledIn();
        for (int sort = 0; sort < 3; sort++) {
            x.sheet(0, sort, 3);
            for (int other = 0; other < 3; other++) {
                Check.due(sort + " taken for " + other, x.boats(0, other, 0, 1), sort == other ? 0 : OTHER);
                Check.due(sort + " taken for " + other + ", none", x.boats(0, other, 0, 0), sort == other ? 0 : OTHER);
            }
        }
    }

    // boats: -11
    private static void boatsOfAMissingSheet() {
        BoatsCalledIn x = new BoatsCalledIn();
        for (int sort = 0; sort < 3; sort++) {
            Check.due("for sort " + sort, x.boats(0, sort, 0, 1), NOTHING);
            Check.due("for sort " + sort + ", none", x.boats(0, sort, 0, 0), NOTHING);
        }
        x.sheet(0, 1, 3);
        x.sheet(0, -1, 3);
        Check.due("missing again", x.boats(0, 1, 0, 1), NOTHING);
    }

    // boats: -12
    private static void boatsFromOutside() {
        BoatsCalledIn x = new BoatsCalledIn();
        Check.sheet(x, 0, 2, 0, 0, 5000, 0, 0, 5000);
        int[][] outside = {{-1, 1}, {4, 1}, {5, 1}, {6, 1}, {7, 1}, {-3, 1}, {LOW, 1}, {HIGH, 1}, {-3, 7}};
        for (int[] o : outside) {
            Check.due("boats from " + o[0] + ", " + o[1], x.boats(0, 2, o[0], o[1]), OUTSIDE);
        }
        Check.due("none came", x.count(0), 0);
        Check.due("from 3", x.boats(0, 2, 3, 1), 1);
        x.sheet(1, 2, 0);
        Check.due("of an empty one", x.boats(1, 2, 0, 1), OUTSIDE);
        for (int size = 1; size < 3; size++) {
            x.sheet(1, 2, size);
            Check.due("of " + size + " items", x.boats(1, 2, 0, 1), OUTSIDE);
        }
    }

    // -12: what stood ahead came
    private static void whatStoodAheadCame() {
        for (int size = 6; size < 9; size++) {
            BoatsCalledIn x = new BoatsCalledIn();
            x.sheet(0, 2, size);
            for (int i = 0; i < size; i++) {
                x.cell(0, i, i % 3 == 2 ? 5000 + i : i % 3);
            }
            Check.due("the third is outside, of " + size, x.boats(0, 2, 0, 3), OUTSIDE);
            Check.due("two came", x.count(0), 2);
            Check.due("out of the second", x.told(1, 1), 5);
            Check.due("again", x.boats(0, 2, 3, 2), OUTSIDE);
            Check.due("one more came", x.count(0), 3);
        }
        BoatsCalledIn y = new BoatsCalledIn();
        Check.sheet(y, 0, 1, 6, 0, 5000, 0, 0, 5000);
        Check.due("one that is none, one, and outside", y.boats(0, 1, 0, 7), OUTSIDE);
        Check.due("one came", y.count(0), 1);
    }

    // boats: -12: though from and 3 n together wrap
    private static void boatsThatWrap() {
        BoatsCalledIn x = new BoatsCalledIn();
        x.sheet(0, 2, 40);
        for (int i = 0; i < 40; i++) {
            x.cell(0, i, 0);
        }
        int[] from = {HIGH, HIGH - 1, HIGH - 2, HIGH - 3, HIGH - 20, LOW, LOW + 1, LOW + 20};
        for (int f : from) {
            for (int n = 1; n <= 7; n += 3) {
                Check.due("boats from " + f + ", " + n, x.boats(0, 2, f, n), OUTSIDE);
            }
        }
    }

    // BAD: no such SHEET, sort, n; -13; -11; -12
    private static void boatsIsBadThenOtherThenNothingThenOutside() {
        BoatsCalledIn x = new BoatsCalledIn();
        x.sheet(0, 2, 3);
        Check.due("no such n, another sort", x.boats(0, 1, 9, 8), BAD);
        Check.due("no such n, missing", x.boats(1, 1, 9, -1), BAD);
        Check.due("no such sort, missing", x.boats(1, 3, 9, 1), BAD);
        Check.due("no such sheet", x.boats(4, 1, 9, 1), BAD);
        Check.due("another sort, outside", x.boats(0, 1, 9, 1), OTHER);
        Check.due("missing, outside", x.boats(1, 1, 9, 1), NOTHING);
        Check.due("outside", x.boats(0, 2, 9, 1), OUTSIDE);
    }

    private static BoatsCalledIn sixKinds() {
        BoatsCalledIn x = new BoatsCalledIn();
        for (int kind = 0; kind < 6; kind++) {
            Check.boat(x, kind, kind + 3, 9, 0, 5);
        }
        return x;
    }

    // taken: one of KIND k
    private static void takenForItsOwnKind() {
        BoatsCalledIn x = sixKinds();
        for (int kind = 0; kind < 6; kind++) {
            Check.due("taken(" + kind + ", " + kind + ")", x.taken(kind, kind), kind + 3);
        }
    }

    // .. or one under that one
    private static void takenForOneUnder() {
        BoatsCalledIn x = sixKinds();
        int[] over = {0, 0, 0, 1, 2, 0};
        for (int kind = 0; kind < 6; kind++) {
            Check.due("taken(" + kind + ", " + over[kind] + ")", x.taken(kind, over[kind]), kind + 3);
        }
    }

    // taken: -13
    private static void takenForAnotherKind() {
        BoatsCalledIn x = sixKinds();
        int[][] other = {{0, 1}, {0, 2}, {0, 3}, {0, 4}, {0, 5}, {1, 2}, {1, 3}, {1, 4}, {1, 5}, {2, 1}, {2, 3}, {2, 4}, {2, 5},
            {3, 2}, {3, 4}, {3, 5}, {4, 1}, {4, 3}, {4, 5}, {5, 1}, {5, 2}, {5, 3}, {5, 4}};
        for (int[] o : other) {
            Check.due("taken(" + o[0] + ", " + o[1] + ")", x.taken(o[0], o[1]), OTHER);
        }
    }

    // .. (also by others between)
    private static void takenByOthersBetween() {
        BoatsCalledIn x = sixKinds();
        Check.due("a leaky one as a boat", x.taken(3, 0), 6);
        Check.due("a deaf one as a boat", x.taken(4, 0), 7);
    }

    // taken: its NUMBER
    private static void takenTellsItsNumber() {
        BoatsCalledIn x = sixKinds();
        for (int number = 0; number < 10; number++) {
            x.set(3, 4, number);
            Check.due("number " + number, x.taken(4, 2), number);
        }
        Check.due("of another one", x.taken(3, 3), 6);
    }

    // A BOAT taken: in any state
    private static void takenInAnyState() {
        BoatsCalledIn x = Check.willing(1);
        Check.boat(x, 3, 8, 1, 0, 5);
        x.call(0);
        Check.due("coming", x.taken(0, 1), 8);
        x.time(240);
        Check.due("in", x.taken(0, 1), 8);
        Check.due("in, as another", x.taken(0, 2), OTHER);
    }

    // KIND k (0 .. 5); BAD: k
    private static void takenOfKinds0To5() {
        BoatsCalledIn x = sixKinds();
        int[] bad = {-1, 6, 7, LOW, HIGH};
        for (int k : bad) {
            Check.due("taken(0, " + k + ")", x.taken(0, k), BAD);
            Check.due("taken(5, " + k + ")", x.taken(5, k), BAD);
        }
    }

    // taken: -11: no such BOAT
    private static void takenOfNoSuchBoat() {
        BoatsCalledIn x = new BoatsCalledIn();
        Check.due("of no boats", x.taken(0, 0), NOTHING);
        x = sixKinds();
        int[] none = {-1, 6, 7, 8, LOW, HIGH};
        for (int boat : none) {
            for (int k = 0; k < 6; k++) {
                Check.due("taken(" + boat + ", " + k + ")", x.taken(boat, k), NOTHING);
            }
        }
        Check.due("the last one", x.taken(5, 5), 8);
    }

    // BAD: k; -11: no such BOAT; -13
    private static void takenIsBadThenNothingThenOther() {
        BoatsCalledIn x = sixKinds();
        Check.due("no such boat, no such kind", x.taken(9, 6), BAD);
        Check.due("no such boat, no such kind, below", x.taken(-1, -1), BAD);
        Check.due("no such boat", x.taken(9, 5), NOTHING);
        Check.due("another kind", x.taken(0, 5), OTHER);
    }
}
