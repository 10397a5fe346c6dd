/** Walks of any calls, mostly near the edges, by an object and by the plain model: each answer is to be the same. */
public final class ModelTest {
    private static final int CALLS = 512;
    private static long state = 5L;

    private final BoatsCalledIn x = new BoatsCalledIn();
    private final Model model = new Model();
    private final int mood;
    private int calls;

    private ModelTest(int mood) {
        this.mood = mood;
    }

    public static void main(String[] args) {
        for (int i = 0; i < 1000; i++) {
            new ModelTest(i % 4).walk();
        }
        Check.end();
    }

    /** The next of a row of numbers that is always the same. */
    private static int next(int below) {
        state = state * 6364136223846793005L + 1442695040888963407L;
        return (int) ((state >>> 33) % below);
    }

    /** A number of 0 .. below - 1, now and then at its edge, and now and then one outside. */
    private static int near(int below) {
        switch (next(80)) {
            case 0: return -1;
            case 1: return below;
            case 2: return below + next(3);
            case 3: return -1 - next(below);
            case 4: return next(2) == 0 ? Integer.MAX_VALUE - next(3) : Integer.MIN_VALUE + next(3);
            case 5: case 6: case 7: case 8: return 0;
            case 9: case 10: case 11: case 12: return below - 1;
            default: return next(below);
        }
    }

    private void due(String call, long got, long want) {
        calls++;
        Check.due("walk of mood " + mood + ", call " + calls + ": " + call, got, want);
    }

    private void walk() {
        if (next(4) > 0) {
            text();
            force(1);
        }
        int boats = next(3) == 0 ? 7 : next(9);
        for (int i = 0; i < boats; i++) {
            boat();
        }
        while (calls < CALLS - 12) {
            if (next(60) == 0) {
                text();
            } else {
                step(next(32));
            }
        }
    }

    /** Mostly one that there is. */
    private int some(int boats) {
        return boats == 0 || next(12) == 0 ? near(7) : next(boats);
    }

    private void force(int text) {
        due("force(" + text + ")", x.force(text), model.force(text));
    }

    private void boat() {
        int kind = near(6);
        int what = 100 * near(mood == 1 ? 10 : 48) + near(10);
        int time = 1000 * (5 + near(mood == 2 ? 30 : 236)) + next(mood == 0 ? 1000 : 20);
        due("boat(" + kind + ", " + what + ", " + time + ")", x.boat(kind, what, time), model.boat(kind, what, time));
    }

    /** Asks for something, or does it. */
    private void step(int which) {
        int boat = some(model.count(0));
        switch (which) {
            case 0: boat(); break;
            case 1: letter(near(256)); break;
            case 2: force(near(4)); break;
            case 3: case 4: set(); break;
            case 5: case 6: tell(boat); break;
            case 7: case 8: case 9: due("call(" + boat + ")", x.call(boat), model.call(boat)); break;
            case 10: case 11: pass(); break;
            case 12: due("nobody()", x.nobody(), model.nobody()); break;
            case 13: due("callAt(" + boat + ")", x.callAt(boat), model.callAt(boat)); break;
            case 14: due("allIn()", x.allIn(), model.allIn()); break;
            case 15: case 16: fetch(); break;
            case 17: launch(); break;
            case 18: one(near(2)); break;
            case 19: case 20: thunder(next(3) == 0 ? near(241) : next(60), near(2)); break;
            case 21: due("stand()", x.stand(), model.stand()); break;
            case 22: hear(); break;
            case 23: where(boat, near(6)); break;
            case 24: drawn(near(1000)); break;
            case 25: chance(near(1000), near(21), near(2)); break;
            case 26: image(); break;
            case 27: count(near(10)); break;
            case 28: sheet(); break;
            case 29: cells(near(4)); break;
            case 30: copy(); break;
            case 31: boatsBySheet(); break;
            default: taken(boat, near(6)); break;
        }
    }

    private void set() {
        int[] sizes = {48, 1000, 241, 10, 48, 10, 7, 10, 21};
        int what = near(9);
        int of = some(model.count(0));
        int v = near(what < 0 || what > 8 ? 5 : sizes[what]);
        due("set(" + what + ", " + of + ", " + v + ")", x.set(what, of, v), model.set(what, of, v));
    }

    private void tell(int boat) {
        int what = near(11);
        due("told(" + boat + ", " + what + ")", x.told(boat, what), model.told(boat, what));
    }

    private void letter(int letter) {
        due("feed(" + letter + ")", x.feed(letter), model.feed(letter));
    }

    private void pass() {
        int n = next(3) == 0 ? near(241) : near(12);
        due("time(" + n + ")", x.time(n), model.time(n));
    }

    /** Mostly some of those on the lake. */
    private int some() {
        int bits = next(128);
        if (next(8) == 0) {
            return next(3) == 0 ? near(128) : bits;
        }
        int some = 0;
        for (int i = 0; i < 7; i++) {
            some |= model.told(i, 5) == 0 ? bits & 1 << i : 0;
        }
        return some;
    }

    private void fetch() {
        int set = some();
        int what = near(8);
        due("fetch(" + set + ", " + what + ")", x.fetch(set, what), model.fetch(set, what));
    }

    private void launch() {
        int set = next(3) == 0 ? some() : some() & 1 << next(7);
        due("launch(" + set + ")", x.launch(set), model.launch(set));
    }

    private void one(int what) {
        due("one(" + what + ")", x.one(what), model.one(what));
    }

    private void thunder(int n, int what) {
        due("thunder(" + n + ", " + what + ")", x.thunder(n, what), model.thunder(n, what));
    }

    private void where(int boat, int y) {
        due("where(" + boat + ", " + y + ")", x.where(boat, y), model.where(boat, y));
    }

    private void drawn(int seed) {
        due("drawn(" + seed + ")", x.drawn(seed), model.drawn(seed));
    }

    private void chance(int seed, int n, int part) {
        due("chance(" + seed + ", " + n + ", " + part + ")", x.chance(seed, n, part), model.chance(seed, n, part));
    }

    private void image() {
        if (next(3) == 0) {
            due("image()", x.image(), model.image());
        } else {
            due("back()", x.back(), model.back());
        }
    }

    private void count(int what) {
        due("count(" + what + ")", x.count(what), model.count(what));
    }

    private void taken(int boat, int k) {
        due("taken(" + boat + ", " + k + ")", x.taken(boat, k), model.taken(boat, k));
    }

    private void sheet() {
        sheet(near(4), near(4) - 1, next(3) == 0 ? near(41) : next(8));
    }

    private void sheet(int sheet, int sort, int n) {
        due("sheet(" + sheet + ", " + sort + ", " + n + ")", x.sheet(sheet, sort, n), model.sheet(sheet, sort, n));
    }

    private void cell(int sheet, int i, int v) {
        due("cell(" + sheet + ", " + i + ", " + v + ")", x.cell(sheet, i, v), model.cell(sheet, i, v));
    }

    private void cells(int sheet) {
        int[] values = {near(7), 1, 0, near(4810), 5000 + near(236000), 256 + next(7), 65536 + next(7), 40000, -next(9)};
        for (int i = next(3); i >= 0; i--) {
            cell(sheet, next(3) == 0 ? near(40) : near(6), values[next(values.length)]);
        }
    }

    private void copy() {
        int sheet = near(4);
        int i = near(5);
        int other = next(3) == 0 ? sheet : near(4);
        int j = near(5);
        int n = near(5);
        String call = "copy(" + sheet + ", " + i + ", " + other + ", " + j + ", " + n + ")";
        due(call, x.copy(sheet, i, other, j, n), model.copy(sheet, i, other, j, n));
    }

    /** Some rows of a boat and 1 or 0, mostly true ones, and heard of them. */
    private void hear() {
        int sheet = near(4);
        int sort = near(3);
        int rows = next(4);
        if (next(4) > 0) {
            sheet(sheet, sort, 2 * rows + (next(9) == 0 ? 1 : 0));
            for (int i = 0; i < rows; i++) {
                int boat = some(model.count(0));
                cell(sheet, 2 * i, boat);
                cell(sheet, 2 * i + 1, next(5) == 0 ? near(2) : Math.max(0, model.told(boat, 9)));
            }
        }
        due("heard(" + sheet + ")", x.heard(sheet), model.heard(sheet));
    }

    private void boatsBySheet() {
        int sheet = near(4);
        int sort = near(3);
        int rows = next(3);
        int ahead = next(3);
        if (next(2) > 0) {
            sheet(sheet, sort, ahead + 3 * rows + next(3));
            for (int i = 0; i < rows; i++) {
                cell(sheet, ahead + 3 * i, near(6));
                cell(sheet, ahead + 3 * i + 1, 100 * near(48) + near(10));
                cell(sheet, ahead + 3 * i + 2, 1000 * (5 + near(236)) + next(1000));
            }
        }
        int from = next(4) == 0 ? near(9) : ahead;
        int n = next(4) == 0 ? near(8) : rows;
        String call = "boats(" + sheet + ", " + sort + ", " + from + ", " + n + ")";
        due(call, x.boats(sheet, sort, from, n), model.boats(sheet, sort, from, n));
    }

    // ---- texts

    private void text() {
        String[] hears = {"1", "not hid", e(1), "hid=0 or boat=2", "not " + e(1)};
        String[] comes = {"1", "boat<" + next(8), "0-" + next(200) + "<late", e(2), "not " + e(1), "wind<" + next(10)};
        String text = "price " + e(2) + ";hears " + hears[next(5)] + ";comes " + comes[next(6)] + ";";
        if (next(6) == 0) {
            int place = next(text.length());
            String[] put = {"", "?", "(", "12345", " not ", "-", ";", " price ", "\n", "<1", "9", "x"};
            text = text.substring(0, place) + put[next(put.length)] + text.substring(Math.min(text.length(), place + next(3)));
        }
        if (text.length() > 100 || calls + text.length() > CALLS - 60) {
            return;
        }
        for (int i = 0; i < text.length(); i++) {
            letter(text.charAt(i));
        }
        due("text() of \"" + text + "\"", x.text(), model.text());
    }

    private static String e(int size) {
        String[] names = {"far", "wind", "late", "hid", "boat", "minute"};
        String[] signs = {"+", "-", "*", "<", "=", " and ", " or "};
        if (size == 0 || next(5) == 0) {
            return next(3) == 0 ? "" + next(next(3) == 0 ? 9999 : 10) : names[next(6)];
        }
        switch (next(6)) {
            case 0: return "(" + e(size - 1) + ")";
            case 1: return "-" + e(0);
            case 2: return "not " + e(size - 1);
            default: return e(size - 1) + signs[next(signs.length)] + e(size - 1);
        }
    }
}
