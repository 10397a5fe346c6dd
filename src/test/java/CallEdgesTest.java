/** The edges that the document names of calls and of time, and by promises 8 to 12: one test for each sentence. */
public final class CallEdgesTest {
    private static final int BAD = -2, STATE = -3, NONE = -1;
    private static final int LOW = Integer.MIN_VALUE, HIGH = Integer.MAX_VALUE;

    public static void main(String[] args) {
        dueIsOutAndPaidTogether();
        lateMayBeBelow0();
        noFartherThanItHears();
        hearsAndComesTellIt();
        itNeedsFarTimesRows();
        oneThatWouldComeIsComing();
        oneThatWouldNotComeStays();
        callOfNoBoat();
        callOfOneNotOnTheLake();
        owesForThatMinuteLessDue();
        owesNothingAheadOfDue();
        priceAsIfTheMinuteWereThatOne();
        takingsAre0AtFirst();
        waitingIs1Less();
        waitingIs0AtLeast();
        timeIs0To240();
        timeOfNothing();
        timeIs9999AtMost();
        itsMinuteIsNotBehindTheMinute();
        itComesInAtItsMinute();
        timeAnswersHowManyCame();
        aMinuteBehindTheLastOne();
        nobodyOfNoBoats();
        nobodyIsOfThoseOnTheLake();
        nobodyIsOfNow();
        nobodyIsAllSeven();
        callAtIsTheLeast();
        callAtIs0Now();
        callAtIs240AtMost();
        callAtIsNoSoonerThanDue();
        callAtByWindAndCell();
        callAtAsksTheRuleOfThatMinute();
        callAtNone();
        callAtOfNoBoat();
        callAtOfOneNotOnTheLake();
        callAtChangesNothing();
        allInOfNone();
        allInIsTheLatest();
        allInOfThoseThatAreComing();
        allInOfThoseThatAreIn();
        allInChangesNothing();
        Check.end();
    }

    // DUE: OUT and PAID together
    private static void dueIsOutAndPaidTogether() {
        int[][] times = {{0, 5}, {0, 240}, {999, 5}, {999, 240}, {17, 30}};
        for (int[] t : times) {
            BoatsCalledIn x = Check.willing(1);
            Check.boat(x, 0, 0, 0, t[0], t[1]);
            Check.pass(x, t[0] + t[1]);
            Check.due("due now", x.told(0, 10), 0);
            x.time(1);
            Check.due("due a minute ago", x.told(0, 10), 1);
        }
        BoatsCalledIn x = Check.willing(1);
        Check.boat(x, 0, 0, 0, 10, 10);
        x.time(30);
        Check.due("late by its out and paid", x.told(0, 10), 1);
        x.set(1, 0, 20);
        Check.due("no more late by a later out", x.told(0, 10), 0);
        x.set(1, 0, 10);
        x.set(2, 0, 20);
        Check.due("no more late by more paid", x.told(0, 10), 0);
    }

    // LATE: THE MINUTE less DUE (it may be below 0)
    private static void lateMayBeBelow0() {
        BoatsCalledIn x = new BoatsCalledIn();
        Check.boat(x, 0, 0, 0, 0, 30);
        x.time(25);
        Check.due("5 minutes ahead: it wouldn't come", x.told(0, 9), 0);
        x.time(1);
        Check.due("4 minutes ahead: it would", x.told(0, 9), 1);
    }

    // if its CELL is no farther from the STAGE than it HEARS
    private static void noFartherThanItHears() {
        int[] numbers = {0, 3, 0, 2, 0, 4};
        for (int kind = 0; kind < 6; kind++) {
            BoatsCalledIn x = Check.willing(1);
            Check.boat(x, kind, numbers[kind], 0, 0, 5);
            for (int wind = 0; wind < 10; wind++) {
                x.set(5, 0, wind);
                int hears = x.told(0, 8);
                int near = hears < 8 ? hears : 7 + 8 * (Math.min(hears, 12) - 7);
                x.set(0, 0, near);
                Check.due("kind " + kind + " in cell " + near + " by wind " + wind, x.told(0, 9), 1);
                x.set(0, 0, hears < 7 ? hears + 1 : 7 + 8 * (Math.min(hears, 11) - 6));
                Check.due("kind " + kind + " one farther by wind " + wind, x.told(0, 9), hears > 11 ? 1 : 0);
            }
        }
    }

    // .. and hears and comes tell it
    private static void hearsAndComesTellIt() {
        String[][] rules = {{"0", "0"}, {"0", "1"}, {"1", "0"}, {"1", "1"}};
        int[] would = {0, 0, 0, 1};
        for (int i = 0; i < 4; i++) {
            BoatsCalledIn x = new BoatsCalledIn();
            Check.rule(x, "1", rules[i][0], rules[i][1]);
            Check.boat(x, 0, 0, 0, 0, 5);
            Check.due("by hears " + rules[i][0] + ", comes " + rules[i][1], x.told(0, 9), would[i]);
            Check.due("called", x.call(0), would[i]);
        }
    }

    // it needs FAR times ROWS minutes
    private static void itNeedsFarTimesRows() {
        int[][] made = {{0, 0, 0, 0, 0}, {0, 0, 0, 9, 0}, {0, 0, 47, 0, 24}, {1, 0, 47, 0, 12}, {1, 9, 47, 9, 60},
            {2, 0, 8, 8, 14}, {3, 9, 47, 9, 168}, {4, 0, 1, 7, 12}, {5, 8, 3, 9, 36}, {5, 1, 0, 9, 0}, {2, 0, 9, 7, 24}};
        for (int[] m : made) {
            BoatsCalledIn x = Check.willing(1);
            x.set(5, 0, m[3]);
            Check.boat(x, m[0], m[1], m[2], 0, 5);
            x.time(3);
            Check.due("called", x.call(0), 1);
            Check.due("kind " + m[0] + " from " + m[2] + " by wind " + m[3], x.told(0, 6), 3 + m[4]);
        }
    }

    // A CALL of one ON THE LAKE: if it WOULD COME, it is COMING, to be in so many minutes later: 1 it comes
    private static void oneThatWouldComeIsComing() {
        BoatsCalledIn x = Check.willing(1);
        Check.boat(x, 0, 0, 3, 0, 5);
        Check.boat(x, 0, 0, 3, 0, 5);
        x.time(9);
        Check.due("called", x.call(0), 1);
        Check.due("coming", x.told(0, 5), 1);
        Check.due("in minute", x.told(0, 6), 15);
        Check.due("the other one is on the lake", x.told(1, 5), 0);
        Check.due("the minute stays", x.count(4), 9);
        x.set(0, 0, 47);
        x.set(5, 0, 9);
        Check.due("its minute stays", x.told(0, 6), 15);
    }

    // call: .. 0 not
    private static void oneThatWouldNotComeStays() {
        BoatsCalledIn x = Check.willing(1);
        Check.boat(x, 4, 0, 5, 0, 5);
        String before = Check.seen(x);
        Check.due("called", x.call(0), 0);
        Check.unchanged("a call that isn't heard", before, x);
        Check.due("called again", x.call(0), 0);
        x.set(0, 0, 4);
        Check.due("called from nearer", x.call(0), 1);
    }

    // call: BAD
    private static void callOfNoBoat() {
        BoatsCalledIn x = Check.willing(1);
        Check.due("call(0) of none", x.call(0), BAD);
        Check.boat(x, 0, 0, 0, 0, 5);
        Check.boat(x, 0, 0, 0, 0, 5);
        String before = Check.seen(x);
        int[] bad = {-1, 2, 3, 6, 7, 8, LOW, HIGH};
        for (int boat : bad) {
            Check.due("call(" + boat + ")", x.call(boat), BAD);
        }
        Check.unchanged("refused calls", before, x);
    }

    // call: STATE: it isn't ON THE LAKE
    private static void callOfOneNotOnTheLake() {
        BoatsCalledIn x = Check.willing(1);
        Check.boat(x, 0, 0, 0, 0, 5);
        Check.boat(x, 0, 0, 1, 0, 5);
        x.call(0);
        x.call(1);
        Check.due("one that is coming", x.call(1), STATE);
        Check.due("one that is there, and coming", x.call(0), STATE);
        x.time(1);
        Check.due("one that is in", x.call(0), STATE);
        Check.rule(x, "1", "0", "0");
        Check.due("one that is in, and wouldn't come", x.call(0), STATE);
        Check.due("one that is coming, and wouldn't", x.call(1), STATE);
        Check.due("its minute stays", x.told(1, 6), 2);
    }

    // To come IN at a minute: what it OWES (for that minute less DUE ..) comes to TAKINGS
    private static void owesForThatMinuteLessDue() {
        int[][] made = {{20, 20, 0}, {19, 20, 1}, {20, 21, 1}, {5, 20, 1}, {5, 21, 2}, {5, 35, 2}, {5, 36, 3}};
        for (int[] m : made) {
            BoatsCalledIn x = Check.willing(9);
            Check.boat(x, 0, 0, 10, 0, m[0]);
            x.time(m[1] - 6);
            x.call(0);
            x.time(240);
            Check.due("in at", x.told(0, 6), m[1]);
            Check.due("takings of one due at " + m[0] + ", in at " + m[1], x.count(5), 9 * m[2]);
            x.time(240);
            Check.due("takings later on", x.count(5), 9 * m[2]);
        }
    }

    // .. for that minute less DUE, 0 at least
    private static void owesNothingAheadOfDue() {
        BoatsCalledIn x = Check.willing(9);
        int[] owed = {0, 0, 0, 0, 2, 0};
        for (int kind = 0; kind < 6; kind++) {
            Check.boat(x, kind, 8, 1, 999, 240);
            Check.due("kind " + kind + ", far ahead", x.told(kind, 10), owed[kind]);
            x.call(kind);
        }
        Check.due("all come in", x.time(240), 6);
        Check.due("takings", x.count(5), 2);
    }

    // .. price told as if THE MINUTE were that one
    private static void priceAsIfTheMinuteWereThatOne() {
        BoatsCalledIn x = new BoatsCalledIn();
        Check.rule(x, "minute", "1", "1");
        Check.boat(x, 0, 0, 10, 0, 5);
        x.call(0);
        x.time(50);
        Check.due("by its minute", x.count(5), 6);
        BoatsCalledIn y = new BoatsCalledIn();
        Check.rule(y, "late*10", "1", "1");
        Check.boat(y, 0, 0, 10, 0, 5);
        y.call(0);
        y.time(50);
        Check.due("by how late it was then", y.count(5), 10);
        Check.due("by how late it is now", y.told(0, 10), 99 * 3);
        BoatsCalledIn z = new BoatsCalledIn();
        Check.rule(z, "minute+1", "1", "1");
        Check.boat(z, 0, 0, 1, 0, 5);
        z.time(5);
        z.launch(1);
        Check.due("fetched: by the minute when it is in", z.count(5), 9);
    }

    // TAKINGS (0 at first)
    private static void takingsAre0AtFirst() {
        BoatsCalledIn x = Check.willing(9);
        Check.due("takings", x.count(5), 0);
        Check.boat(x, 0, 0, 0, 0, 5);
        Check.boat(x, 0, 0, 0, 0, 5);
        x.time(6);
        Check.due("takings of one that is out yet", x.count(5), 0);
        x.call(0);
        Check.due("takings of one that is coming", x.count(5), 0);
        x.time(0);
        Check.due("takings of one that is in", x.count(5), 9);
        x.call(1);
        x.time(15);
        Check.due("takings together", x.count(5), 18);
        x.time(240);
        Check.due("takings once for each", x.count(5), 18);
    }

    // WAITING is 1 less
    private static void waitingIs1Less() {
        BoatsCalledIn x = Check.willing(1);
        for (int i = 0; i < 4; i++) {
            Check.boat(x, 0, 0, 0, 0, 5);
        }
        x.set(8, 0, 20);
        x.call(0);
        Check.due("waiting while it is coming", x.count(6), 20);
        x.time(0);
        Check.due("waiting when it is in", x.count(6), 19);
        x.call(1);
        x.call(2);
        x.time(0);
        Check.due("waiting when two more are in", x.count(6), 17);
        x.launch(8);
        Check.due("waiting when one was fetched", x.count(6), 16);
        x.time(240);
        Check.due("waiting later on", x.count(6), 16);
    }

    // WAITING .. (0 at least)
    private static void waitingIs0AtLeast() {
        BoatsCalledIn x = Check.willing(1);
        for (int i = 0; i < 5; i++) {
            Check.boat(x, 0, 0, 0, 0, 5);
            x.call(i);
        }
        x.set(8, 0, 1);
        Check.due("five come in", x.time(0), 5);
        Check.due("nobody waits", x.count(6), 0);
        BoatsCalledIn y = Check.willing(1);
        Check.boat(y, 0, 0, 0, 0, 5);
        y.launch(1);
        Check.due("nobody waited", y.count(6), 0);
    }

    // TIME: THE MINUTE is n (0 .. 240) more; BAD
    private static void timeIs0To240() {
        BoatsCalledIn x = Check.willing(1);
        Check.boat(x, 0, 0, 0, 0, 5);
        x.call(0);
        String before = Check.seen(x);
        int[] bad = {-1, 241, 242, -240, LOW, HIGH};
        for (int n : bad) {
            Check.due("time(" + n + ")", x.time(n), BAD);
        }
        Check.unchanged("refused times", before, x);
        Check.due("time(240)", x.time(240), 1);
        Check.due("the minute", x.count(4), 240);
        Check.due("time(1)", x.time(1), 0);
        Check.due("the minute after", x.count(4), 241);
    }

    // .. n (0 ..)
    private static void timeOfNothing() {
        BoatsCalledIn x = Check.willing(1);
        Check.boat(x, 0, 0, 0, 0, 5);
        Check.boat(x, 0, 0, 1, 0, 5);
        Check.due("nobody was called", x.time(0), 0);
        x.call(0);
        x.call(1);
        Check.due("who is there comes in", x.time(0), 1);
        Check.due("the minute stays", x.count(4), 0);
        Check.due("the other one is coming yet", x.told(1, 5), 1);
        Check.due("once for all", x.time(0), 0);
    }

    // .. 9999 at most
    private static void timeIs9999AtMost() {
        BoatsCalledIn x = Check.willing(1);
        Check.boat(x, 0, 0, 8, 0, 5);
        Check.pass(x, 9997);
        x.call(0);
        Check.due("in at the last minute", x.told(0, 6), 9999);
        Check.due("not yet", x.time(1), 0);
        Check.due("in", x.time(240), 1);
        Check.due("the minute", x.count(4), 9999);
        Check.due("in at", x.told(0, 6), 9999);
        Check.due("what it owed", x.count(5), (9994 + 14) / 15);
        Check.due("time goes on, the minute doesn't", x.time(5), 0);
        Check.due("the minute", x.count(4), 9999);
    }

    // each COMING BOAT whose minute isn't behind THE MINUTE comes IN
    private static void itsMinuteIsNotBehindTheMinute() {
        BoatsCalledIn x = Check.willing(1);
        Check.boat(x, 0, 0, 5, 0, 5);
        x.call(0);
        Check.due("a minute ahead", x.time(9), 0);
        Check.due("coming yet", x.told(0, 5), 1);
        Check.due("at its minute", x.time(1), 1);
        Check.due("in", x.told(0, 5), 2);
        BoatsCalledIn y = Check.willing(1);
        Check.boat(y, 0, 0, 5, 0, 5);
        Check.boat(y, 0, 0, 5, 0, 5);
        y.call(1);
        Check.due("a minute after", y.time(11), 1);
        Check.due("who wasn't called is on the lake", y.told(0, 5), 0);
    }

    // .. comes IN at its minute
    private static void itComesInAtItsMinute() {
        BoatsCalledIn x = Check.willing(1);
        Check.boat(x, 0, 0, 7, 0, 5);
        Check.boat(x, 0, 0, 1, 0, 5);
        x.call(0);
        x.call(1);
        Check.due("both", x.time(240), 2);
        Check.due("in was 0", x.told(0, 6), 14);
        Check.due("in was 1", x.told(1, 6), 2);
        Check.due("a quarter of the later one alone", x.count(5), 1);
    }

    // TIME: how many came IN
    private static void timeAnswersHowManyCame() {
        BoatsCalledIn x = Check.willing(1);
        for (int i = 0; i < 7; i++) {
            Check.boat(x, 0, 0, i < 3 ? 0 : 1, 0, 5);
            x.call(i);
        }
        Check.due("three", x.time(0), 3);
        Check.due("none", x.time(1), 0);
        Check.due("four", x.time(1), 4);
        Check.due("no more", x.time(240), 0);
        Check.due("all are in", x.count(3), 7);
        BoatsCalledIn y = new BoatsCalledIn();
        Check.due("of no boats", y.time(240), 0);
    }

    // to be in so many minutes later: behind the last minute it is coming for good
    private static void aMinuteBehindTheLastOne() {
        BoatsCalledIn x = Check.willing(1);
        Check.boat(x, 0, 0, 3, 0, 5);
        Check.pass(x, 9999);
        Check.due("called", x.call(0), 1);
        Check.due("in minute", x.told(0, 6), 10005);
        Check.due("none comes in", x.time(240), 0);
        Check.due("coming yet", x.told(0, 5), 1);
    }

    // NOBODY: BOATS (bits): of none
    private static void nobodyOfNoBoats() {
        BoatsCalledIn x = new BoatsCalledIn();
        Check.due("no boats", x.nobody(), 0);
        Check.boat(x, 0, 0, 0, 0, 5);
        Check.due("one that wouldn't come", x.nobody(), 1);
        x.time(1);
        Check.due("one that would", x.nobody(), 0);
    }

    // .. ON THE LAKE that WOULDN'T COME now
    private static void nobodyIsOfThoseOnTheLake() {
        BoatsCalledIn x = Check.willing(1);
        Check.boat(x, 0, 0, 0, 0, 5);
        Check.boat(x, 0, 0, 1, 0, 5);
        Check.boat(x, 0, 0, 2, 0, 5);
        x.call(0);
        x.call(1);
        x.time(0);
        Check.rule(x, "1", "0", "0");
        Check.due("one is in, one coming, one on the lake", x.nobody(), 4);
        x.launch(4);
        Check.due("all are in", x.nobody(), 0);
    }

    // .. now
    private static void nobodyIsOfNow() {
        BoatsCalledIn x = new BoatsCalledIn();
        Check.boat(x, 0, 0, 9, 0, 30);
        Check.boat(x, 0, 0, 28, 0, 30);
        Check.boat(x, 2, 0, 9, 0, 30);
        Check.due("too early", x.nobody(), 7);
        x.time(26);
        Check.due("one is hidden", x.nobody(), 2);
        x.set(4, 0, 31);
        Check.due("none is hidden", x.nobody(), 0);
        x.set(5, 0, 8);
        Check.due("by much wind", x.nobody(), 6);
    }

    // BOATS (bits)
    private static void nobodyIsAllSeven() {
        BoatsCalledIn x = new BoatsCalledIn();
        Check.rule(x, "1", "1", "minute=boat");
        for (int i = 0; i < 7; i++) {
            Check.boat(x, 0, 0, 0, 0, 5);
        }
        for (int minute = 0; minute < 8; minute++) {
            Check.due("in minute " + minute, x.nobody(), minute < 7 ? 127 - (1 << minute) : 127);
            x.time(1);
        }
    }

    // CALL AT: the least n of 0 .. 240
    private static void callAtIsTheLeast() {
        BoatsCalledIn x = new BoatsCalledIn();
        Check.rule(x, "1", "1", "minute=50 or minute=60 or minute=70");
        Check.boat(x, 0, 0, 0, 0, 55);
        Check.due("not 50, nor 70", x.callAt(0), 60);
        x.time(10);
        Check.due("10 minutes on", x.callAt(0), 50);
        x.time(50);
        Check.due("now", x.callAt(0), 0);
        x.time(1);
        Check.due("the next one", x.callAt(0), 9);
        x.time(10);
        Check.due("no more", x.callAt(0), NONE);
    }

    // .. of 0
    private static void callAtIs0Now() {
        BoatsCalledIn x = Check.willing(1);
        Check.boat(x, 0, 0, 10, 0, 6);
        Check.due("in just when due, called now", x.callAt(0), 0);
        x.set(2, 0, 7);
        Check.due("in a minute ahead of due, called now", x.callAt(0), 1);
        x.time(240);
        Check.due("long behind", x.callAt(0), 0);
    }

    // .. 240
    private static void callAtIs240AtMost() {
        BoatsCalledIn x = Check.willing(1);
        Check.boat(x, 0, 0, 0, 0, 240);
        Check.boat(x, 0, 0, 0, 1, 240);
        Check.boat(x, 0, 0, 1, 2, 240);
        Check.boat(x, 0, 0, 1, 3, 240);
        int[] at = {240, NONE, 240, NONE};
        for (int boat = 0; boat < 4; boat++) {
            Check.due("callAt(" + boat + ")", x.callAt(boat), at[boat]);
        }
        x.time(1);
        int[] then = {239, 240, 239, 240};
        for (int boat = 0; boat < 4; boat++) {
            Check.due("a minute on: callAt(" + boat + ")", x.callAt(boat), then[boat]);
        }
    }

    // .. and be in no sooner than DUE
    private static void callAtIsNoSoonerThanDue() {
        int[] kinds = {0, 1, 2, 3, 4, 5};
        int[] needs = {6 * 3, 6 * 2, 6 * 6, 6 * 4, 3 * 6, 6 * 6};
        BoatsCalledIn x = Check.willing(1);
        x.set(5, 0, 3);
        for (int kind : kinds) {
            Check.boat(x, kind, 2, kind == 4 ? 3 : 27, 20, 40);
            Check.due("callAt of kind " + kind, x.callAt(kind), 60 - needs[kind]);
        }
        x.time(60 - needs[0]);
        x.call(0);
        Check.due("called then, it is in when due", x.told(0, 6), 60);
    }

    // .. WOULD COME: by the WIND and the CELL that are now
    private static void callAtByWindAndCell() {
        BoatsCalledIn x = new BoatsCalledIn();
        Check.rule(x, "1", "1", "wind=3 or far=7");
        Check.boat(x, 0, 0, 47, 0, 5);
        Check.boat(x, 0, 0, 9, 0, 50);
        Check.due("by another wind", x.callAt(1), NONE);
        x.set(5, 0, 3);
        Check.due("by this wind", x.callAt(1), 44);
        Check.due("too far to hear by this wind", x.callAt(0), NONE);
        x.set(0, 0, 38);
        Check.due("too far by two cells", x.callAt(0), NONE);
        x.set(0, 0, 15);
        x.set(5, 0, 2);
        Check.due("near enough", x.callAt(0), NONE);
        x.set(0, 0, 14);
        Check.due("in its cell by any wind", x.callAt(0), 0);
        Check.due("the other one by this wind", x.callAt(1), NONE);
    }

    // .. THE MINUTE being n more, WOULD COME
    private static void callAtAsksTheRuleOfThatMinute() {
        BoatsCalledIn x = new BoatsCalledIn();
        Check.boat(x, 0, 0, 0, 10, 30);
        Check.boat(x, 0, 0, 6, 10, 30);
        Check.due("when due, from the stage", x.callAt(0), 40);
        Check.due("not ahead of 4 minutes ahead of due", x.callAt(1), 36);
        Check.rule(x, "1", "minute=77", "1");
        Check.due("by hears", x.callAt(0), 77);
        Check.rule(x, "1", "1", "late=50");
        Check.due("by comes", x.callAt(0), 90);
        x.time(90);
        Check.due("now", x.callAt(0), 0);
        x.time(1);
        Check.due("too late", x.callAt(0), NONE);
    }

    // callAt: .. NONE
    private static void callAtNone() {
        BoatsCalledIn x = new BoatsCalledIn();
        Check.boat(x, 4, 0, 5, 0, 5);
        Check.boat(x, 0, 0, 28, 0, 5);
        Check.boat(x, 0, 0, 0, 999, 240);
        Check.boat(x, 5, 1, 1, 0, 5);
        for (int boat = 0; boat < 4; boat++) {
            Check.due("callAt(" + boat + ")", x.callAt(boat), NONE);
        }
    }

    // callAt: BAD
    private static void callAtOfNoBoat() {
        BoatsCalledIn x = Check.willing(1);
        Check.due("callAt(0) of none", x.callAt(0), BAD);
        Check.boat(x, 0, 0, 0, 0, 5);
        int[] bad = {-1, 1, 2, 6, 7, LOW, HIGH};
        for (int boat : bad) {
            Check.due("callAt(" + boat + ")", x.callAt(boat), BAD);
        }
    }

    // callAt: STATE: it isn't ON THE LAKE
    private static void callAtOfOneNotOnTheLake() {
        BoatsCalledIn x = Check.willing(1);
        Check.boat(x, 0, 0, 0, 0, 5);
        x.call(0);
        Check.due("one that is coming", x.callAt(0), STATE);
        x.time(0);
        Check.due("one that is in", x.callAt(0), STATE);
        Check.boat(x, 0, 0, 1, 0, 9);
        Check.due("another one, on the lake", x.callAt(1), 7);
        Check.boat(x, 0, 0, 1, 0, 9);
        x.call(2);
        Check.due("yet another one, coming", x.callAt(2), STATE);
        Check.due("the one on the lake ahead of it", x.callAt(1), 7);
        Check.rule(x, "1", "0", "0");
        Check.due("one that is in, and never would come", x.callAt(0), STATE);
    }

    // callAt asks, and changes nothing
    private static void callAtChangesNothing() {
        BoatsCalledIn x = Check.willing(1);
        Check.boat(x, 0, 0, 9, 0, 100);
        Check.boat(x, 4, 0, 47, 0, 100);
        String before = Check.seen(x);
        x.callAt(0);
        x.callAt(1);
        Check.unchanged("callAt", before, x);
    }

    // ALL IN: .. (THE MINUTE, if none is)
    private static void allInOfNone() {
        BoatsCalledIn x = new BoatsCalledIn();
        Check.due("no boats", x.allIn(), 0);
        x.time(77);
        Check.due("no boats, later", x.allIn(), 77);
        Check.boat(x, 0, 0, 0, 999, 240);
        Check.due("none that would come", x.allIn(), 77);
        Check.pass(x, 9999);
        x.set(0, 0, 28);
        Check.due("none in the last minute", x.allIn(), 9999);
    }

    // the latest minute in which any that is COMING then is in
    private static void allInIsTheLatest() {
        BoatsCalledIn x = Check.willing(1);
        Check.boat(x, 0, 0, 3, 0, 5);
        Check.boat(x, 0, 0, 9, 0, 5);
        x.time(5);
        Check.due("the first one", x.allIn(), 11);
        x.set(0, 1, 4);
        Check.due("the second one", x.allIn(), 13);
        Check.boat(x, 0, 0, 0, 0, 5);
        Check.due("with one at the stage", x.allIn(), 13);
        Check.boat(x, 4, 0, 47, 0, 5);
        Check.due("with one that wouldn't come", x.allIn(), 13);
        x.set(0, 0, 0);
        x.set(0, 1, 0);
        Check.due("all at the stage", x.allIn(), 5);
    }

    // any that is COMING then: also one that was called long ago
    private static void allInOfThoseThatAreComing() {
        BoatsCalledIn x = Check.willing(1);
        Check.boat(x, 0, 0, 47, 0, 5);
        Check.boat(x, 0, 0, 1, 0, 5);
        x.call(0);
        x.set(0, 0, 0);
        x.time(10);
        Check.due("by the minute that it was told", x.allIn(), 24);
        Check.rule(x, "1", "0", "0");
        Check.due("none on the lake would come", x.allIn(), 24);
        x.time(13);
        Check.due("a minute ahead", x.allIn(), 24);
        BoatsCalledIn y = Check.willing(1);
        Check.boat(y, 0, 0, 1, 0, 5);
        Check.boat(y, 0, 0, 7, 0, 5);
        y.call(0);
        y.call(1);
        Check.due("the later one of two that are coming", y.allIn(), 14);
    }

    // ALL IN: those that are IN aren't COMING
    private static void allInOfThoseThatAreIn() {
        BoatsCalledIn x = Check.willing(1);
        Check.boat(x, 0, 0, 1, 0, 5);
        x.call(0);
        x.time(1);
        x.time(1);
        x.set(0, 0, 47);
        Check.due("one that is in", x.allIn(), 2);
        x.time(100);
        Check.due("one that is in, later", x.allIn(), 102);
    }

    // allIn asks, and changes nothing
    private static void allInChangesNothing() {
        BoatsCalledIn x = Check.willing(1);
        Check.boat(x, 0, 0, 9, 0, 100);
        Check.boat(x, 0, 0, 47, 0, 100);
        x.call(1);
        String before = Check.seen(x);
        x.allIn();
        Check.unchanged("allIn", before, x);
    }
}
