/** Promises 8 to 12: call, time, nobody, callAt, allIn. */
public final class CallsTest {
    private static final int BAD = -2, STATE = -3, NONE = -1;

    public static void main(String[] args) {
        promise8();
        promise8Refusals();
        promise9();
        promise9Price();
        promise9Waiting();
        promise9End();
        promise9Refusals();
        promise10();
        promise11();
        promise11Rules();
        promise11Refusals();
        promise12();
        Check.end();
    }

    private static void promise8() {
        BoatsCalledIn x = Check.willing(4);
        Check.boat(x, 0, 0, 47, 0, 5);
        Check.boat(x, 2, 0, 17, 0, 5);
        Check.boat(x, 4, 0, 5, 0, 5);
        Check.boat(x, 0, 0, 0, 0, 5);
        x.time(100);
        int[] comes = {1, 1, 0, 1};
        int[] how = {1, 1, 0, 1};
        int[] in = {124, 106, NONE, 100};
        for (int boat = 0; boat < 4; boat++) {
            Check.due("call(" + boat + ")", x.call(boat), comes[boat]);
            Check.due("how is " + boat, x.told(boat, 5), how[boat]);
            Check.due("in is " + boat, x.told(boat, 6), in[boat]);
        }
        Check.due("coming are", x.count(2), 3);
        x.set(5, 0, 9);
        Check.due("another wind changes nothing for one that is coming", x.told(0, 6), 124);
        Check.due("one that stayed may be called again", x.call(2), 0);
        Check.due("nothing is taken ahead of time", x.count(5), 0);
    }

    private static void promise8Refusals() {
        BoatsCalledIn x = Check.willing(4);
        Check.due("call(0) of none", x.call(0), BAD);
        Check.boat(x, 0, 0, 3, 0, 5);
        int[] bad = {-1, 1, 7, Integer.MIN_VALUE, Integer.MAX_VALUE};
        for (int boat : bad) {
            Check.due("call(" + boat + ")", x.call(boat), BAD);
        }
        x.call(0);
        String before = Check.seen(x);
        Check.due("call of one that is coming", x.call(0), STATE);
        Check.unchanged("call of one that is coming", before, x);
        x.time(240);
        before = Check.seen(x);
        Check.due("call of one that is in", x.call(0), STATE);
        Check.unchanged("call of one that is in", before, x);
    }

    private static void promise9() {
        BoatsCalledIn x = Check.willing(10);
        Check.boat(x, 0, 0, 3, 0, 20);
        Check.boat(x, 0, 0, 1, 0, 10);
        Check.boat(x, 0, 0, 2, 0, 10);
        Check.due("time(0)", x.time(0), 0);
        Check.due("time(24)", x.time(24), 0);
        x.call(0);
        x.call(1);
        Check.due("a minute too early", x.time(1), 0);
        Check.due("just in time", x.time(1), 1);
        Check.due("in is 1, in minute 26", x.told(1, 6), 26);
        Check.due("two quarters begun", x.count(5), 20);
        Check.due("the other is coming yet", x.told(0, 5), 1);
        Check.due("long after", x.time(240), 1);
        Check.due("in is 0 at its minute", x.told(0, 6), 30);
        Check.due("what it owed at its minute", x.count(5), 30);
        Check.due("the minute", x.count(4), 266);
        Check.due("the third is on the lake", x.told(2, 5), 0);
        x.call(2);
        Check.due("one at its minute", x.time(4), 1);
        Check.due("in at", x.told(2, 6), 270);
        Check.due("18 quarters begun", x.count(5), 30 + 180);
    }

    private static void promise9Price() {
        BoatsCalledIn x = new BoatsCalledIn();
        x.force(Check.text(x, "price minute - late; hears 1; comes 1;"));
        Check.boat(x, 0, 0, 10, 0, 7);
        Check.boat(x, 5, 8, 10, 0, 200);
        Check.boat(x, 4, 8, 1, 0, 200);
        x.call(0);
        x.call(1);
        x.call(2);
        x.time(1);
        x.set(2, 0, 5);
        Check.due("three come in", x.time(240), 3);
        Check.due("5 for a quarter, nothing, and 2", x.count(5), 7);
        BoatsCalledIn y = new BoatsCalledIn();
        y.force(Check.text(y, "price minute; hears 1; comes 1;"));
        Check.boat(y, 0, 0, 10, 0, 5);
        y.call(0);
        y.time(240);
        Check.due("the price of its own minute", y.count(5), 6);
        Check.due("the price of now", y.told(0, 10), 99 * 16);
        y.force(Check.text(y, "price -1; hears 1; comes 1;"));
        Check.due("a price is 0 at least", y.told(0, 10), 0);
    }

    private static void promise9Waiting() {
        BoatsCalledIn x = Check.willing(1);
        for (int i = 0; i < 4; i++) {
            Check.boat(x, 0, 0, i + 1, 0, 240);
            x.call(i);
        }
        x.set(8, 0, 3);
        int[] waiting = {2, 1, 0, 0};
        for (int i = 0; i < 4; i++) {
            x.time(2);
            Check.due("waiting when " + i + " is in", x.count(6), waiting[i]);
        }
        Check.due("all are in", x.count(3), 4);
    }

    private static void promise9End() {
        BoatsCalledIn x = Check.willing(1);
        Check.boat(x, 0, 0, 1, 0, 240);
        Check.boat(x, 0, 0, 2, 0, 240);
        Check.pass(x, 9990);
        Check.due("near the end", x.count(4), 9990);
        x.set(0, 0, 10);
        x.set(0, 1, 47);
        x.call(0);
        x.call(1);
        Check.due("in ahead of the end", x.told(0, 6), 9996);
        Check.due("in behind the end", x.told(1, 6), 10014);
        Check.due("one comes in", x.time(240), 1);
        Check.due("the end", x.count(4), 9999);
        Check.due("the end again", x.time(240), 0);
        Check.due("the end stays", x.count(4), 9999);
        Check.due("in at its minute", x.told(0, 6), 9996);
        Check.due("coming for good", x.told(1, 5), 1);
        Check.due("all in behind the end", x.allIn(), 10014);
    }

    private static void promise9Refusals() {
        BoatsCalledIn x = Check.willing(4);
        Check.boat(x, 0, 0, 1, 0, 240);
        x.call(0);
        String before = Check.seen(x);
        int[] bad = {-1, 241, Integer.MIN_VALUE, Integer.MAX_VALUE};
        for (int n : bad) {
            Check.due("time(" + n + ")", x.time(n), BAD);
        }
        Check.unchanged("wrong calls of time", before, x);
        Check.due("time(240)", x.time(240), 1);
        Check.due("the minute", x.count(4), 240);
    }

    private static void promise10() {
        BoatsCalledIn x = new BoatsCalledIn();
        Check.due("no boats", x.nobody(), 0);
        Check.boat(x, 0, 0, 3, 0, 30);
        Check.boat(x, 4, 0, 5, 0, 30);
        Check.boat(x, 0, 0, 29, 0, 30);
        Check.boat(x, 0, 0, 3, 0, 60);
        Check.boat(x, 0, 0, 3, 0, 30);
        Check.due("too early for all", x.nobody(), 31);
        x.time(30);
        Check.due("a deaf, a hidden, an early one", x.nobody(), 14);
        x.set(4, 0, 0);
        Check.due("with the island elsewhere", x.nobody(), 27);
        x.set(4, 0, 27);
        x.call(0);
        x.set(5, 0, 9);
        Check.due("one that is coming isn't told of", x.nobody(), 14);
        x.time(240);
        x.set(5, 0, 0);
        Check.due("one that is in isn't told of", x.nobody(), 6);
        x.call(3);
        x.call(4);
        x.time(240);
        Check.due("on the lake are", x.count(1), 2);
        Check.due("those in aren't told of", x.nobody(), 6);
    }

    private static void promise11() {
        BoatsCalledIn x = Check.willing(4);
        Check.boat(x, 0, 0, 3, 0, 30);
        Check.boat(x, 0, 0, 0, 10, 230);
        Check.boat(x, 0, 0, 0, 10, 231);
        Check.boat(x, 0, 0, 10, 0, 5);
        Check.boat(x, 4, 0, 47, 0, 5);
        Check.boat(x, 0, 0, 1, 239, 5);
        Check.due("6 minutes ahead of due", x.callAt(0), 24);
        Check.due("at the last", x.callAt(1), 240);
        Check.due("never in 240", x.callAt(2), NONE);
        Check.due("now", x.callAt(3), 0);
        Check.due("it hears nothing", x.callAt(4), NONE);
        Check.due("242 is too late", x.callAt(5), NONE);
        String before = Check.seen(x);
        x.callAt(0);
        Check.unchanged("callAt", before, x);
        x.time(10);
        Check.due("10 minutes later", x.callAt(0), 14);
        Check.due("10 minutes later, in reach", x.callAt(5), 232);
        x.time(100);
        Check.due("long due", x.callAt(0), 0);
    }

    private static void promise11Rules() {
        BoatsCalledIn x = new BoatsCalledIn();
        x.force(Check.text(x, "price 1; hears 60 < minute; comes 0-3<late and not minute=67;"));
        Check.boat(x, 0, 0, 1, 20, 20);
        Check.boat(x, 0, 0, 1, 30, 40);
        Check.boat(x, 0, 0, 2, 30, 40);
        Check.due("not heard ahead of 61", x.callAt(0), 61);
        Check.due("68 is in at due", x.callAt(1), 68);
        x.time(63);
        Check.due("in 5 minutes", x.callAt(2), 5);
        Check.due("now", x.callAt(0), 0);
        x.force(Check.text(x, "price 1; hears minute = 64; comes 1;"));
        Check.due("too early to be in at due", x.callAt(1), NONE);
        x.set(2, 1, 36);
        Check.due("in at due", x.callAt(1), 1);
        x.set(5, 0, 9);
        x.set(2, 1, 40);
        Check.due("by a wind it takes longer", x.callAt(1), 1);
    }

    private static void promise11Refusals() {
        BoatsCalledIn x = Check.willing(4);
        Check.boat(x, 0, 0, 1, 0, 5);
        int[] bad = {-1, 1, 7, Integer.MIN_VALUE, Integer.MAX_VALUE};
        for (int boat : bad) {
            Check.due("callAt(" + boat + ")", x.callAt(boat), BAD);
        }
        x.call(0);
        Check.due("callAt of one that is coming", x.callAt(0), STATE);
        x.time(5);
        Check.due("callAt of one that is in", x.callAt(0), STATE);
    }

    private static void promise12() {
        BoatsCalledIn x = new BoatsCalledIn();
        Check.due("no boats", x.allIn(), 0);
        x.time(50);
        Check.due("no boats in minute 50", x.allIn(), 50);
        Check.boat(x, 0, 0, 3, 0, 30);
        Check.boat(x, 0, 0, 7, 0, 20);
        Check.boat(x, 0, 0, 47, 0, 99);
        Check.due("the later one of two", x.allIn(), 64);
        String before = Check.seen(x);
        x.allIn();
        Check.unchanged("allIn", before, x);
        x.call(1);
        x.set(0, 1, 0);
        x.time(1);
        Check.due("one that is coming already", x.allIn(), 64);
        x.time(20);
        Check.due("one that is in isn't told of", x.allIn(), 71 + 6);
        x.set(0, 0, 29);
        Check.due("none comes", x.allIn(), 71);
        x.set(0, 0, 0);
        Check.due("one is at the stage", x.allIn(), 71);
    }
}
