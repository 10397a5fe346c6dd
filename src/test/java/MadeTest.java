/**
 * Many made calls: fetch against all orders (promises 13 to 16), and made texts against the values and faults that they are
 * made with (promise 6).
 */
public final class MadeTest {
    private static long state = 20261118L;

    public static void main(String[] args) {
        for (int i = 0; i < 60; i++) {
            ways();
        }
        for (int i = 0; i < 1500; i++) {
            madeText();
        }
        Check.end();
    }

    /** The next of a row of numbers that is always the same. */
    private static int next(int below) {
        state = state * 6364136223846793005L + 1442695040888963407L;
        return (int) ((state >>> 33) % below);
    }

    // ---- the launch against all orders

    private static int tows;
    private static int speed;
    private static int[] cells;
    private static int fewest;
    private static String first;

    private static void ways() {
        BoatsCalledIn x = new BoatsCalledIn();
        int size = 1 + next(7);
        cells = new int[size];
        int spread = 1 + next(48);
        for (int i = 0; i < size; i++) {
            cells[i] = next(spread);
            Check.boat(x, next(6), 1, cells[i], 999, 240);
        }
        tows = 1 + next(6);
        speed = 1 + next(9);
        x.set(6, 0, tows);
        x.set(7, 0, speed);
        int n = next(241);
        int most = 0;
        for (int set = 0; set < 1 << size; set++) {
            tryAll(set, "");
            if (fewest <= n) {
                most = Math.max(most, Integer.bitCount(set));
            }
            Check.due("minutes of " + set, x.fetch(set, 0), fewest);
            if (set % 5 == 0 || set == (1 << size) - 1) {
                sameOrder(x, set);
            }
        }
        Check.due("thunder(" + n + ", 1)", x.thunder(n, 1), most);
    }

    private static void sameOrder(BoatsCalledIn x, int set) {
        for (int number = 1; number <= 7; number++) {
            int want = number <= first.length() ? first.charAt(number - 1) - '0' : -1;
            Check.due("fetch(" + set + ", " + number + ")", x.fetch(set, number), want);
        }
    }

    private static void tryAll(int set, String order) {
        if (order.isEmpty()) {
            fewest = Integer.MAX_VALUE;
            first = "";
        }
        if (order.length() == Integer.bitCount(set)) {
            int minutes = travelled(order);
            if (minutes < fewest) {
                fewest = minutes;
                first = order;
            }
            return;
        }
        for (int i = 0; i < cells.length; i++) {
            if ((set >> i & 1) == 1 && order.indexOf('0' + i) < 0) {
                tryAll(set, order + i);
            }
        }
    }

    /** The minutes of one order, step by step as the launch goes. */
    private static int travelled(String order) {
        int minutes = 0;
        int y = 0;
        int x = 0;
        int towed = 0;
        for (int i = 0; i < order.length(); i++) {
            int cell = cells[order.charAt(i) - '0'];
            minutes += (Math.abs(y - cell / 8) + Math.abs(x - cell % 8)) * (speed + towed);
            y = cell / 8;
            x = cell % 8;
            towed++;
            if (towed == tows || i == order.length() - 1) {
                minutes += (y + x) * (speed + towed);
                y = 0;
                x = 0;
                towed = 0;
            }
        }
        return minutes;
    }

    // ---- made texts

    private static final String[] NAMES = {"far", "wind", "late", "hid", "boat", "minute"};
    private static final int[] VALUES = new int[6];
    private static int made;

    private static void madeText() {
        BoatsCalledIn x = new BoatsCalledIn();
        int boat = next(3);
        int cell = 24 + next(8);
        for (int i = 0; i <= boat; i++) {
            Check.boat(x, 1, 9, i == boat ? cell : 0, 10, 20);
        }
        int wind = next(4);
        x.set(5, 0, wind);
        int minute = next(200);
        Check.pass(x, minute);
        int[] values = {3 + cell % 8, wind, minute - 30, cell % 8 > 3 ? 1 : 0, boat, minute};
        System.arraycopy(values, 0, VALUES, 0, 6);
        String e = either(0, 3);
        int value = made;
        String text = "price" + blank(true) + e + ";hears 1;comes 1;";
        if (text.length() > 120) {
            return;
        }
        Check.due(text, Check.text(x, text), 1);
        x.force(1);
        int quarters = (Math.max(0, minute - 30) + 14) / 15;
        Check.due("the price of " + text, x.told(boat, 10), Math.max(0, Math.min(99, value)) * quarters);
        truths(x, e, value, boat);
        damaged(text);
    }

    private static void truths(BoatsCalledIn x, String e, int value, int boat) {
        String comes = "price 1;hears 1;comes " + e + ";";
        if (comes.length() <= 120) {
            x.force(Check.text(x, comes));
            Check.due("true: " + comes, x.told(boat, 9), value != 0 ? 1 : 0);
        }
        String hears = "price 1;hears " + e + ";comes 1;";
        if (hears.length() <= 120) {
            x.force(Check.text(x, hears));
            Check.due("true: " + hears, x.told(boat, 9), value != 0 ? 1 : 0);
        }
    }

    /** A good text cut off or spoilt ahead of a token: its fault is there. */
    private static void damaged(String text) {
        int[] places = new int[161];
        int size = 0;
        for (int i = 0; i < text.length(); i++) {
            char c = text.charAt(i);
            boolean inside = i > 0 && kindOf(c) < 2 && kindOf(c) == kindOf(text.charAt(i - 1));
            if (!inside && kindOf(c) != 3) {
                places[size] = i;
                size++;
            }
        }
        for (int i = 0; i < 8; i++) {
            int place = places[next(size)];
            String ahead = text.substring(0, place);
            Check.due("the fault of " + ahead, Check.text(new BoatsCalledIn(), ahead), -100 - place);
            String[] bad = {"?", "12345", "nought", "Z", ">", "\t"};
            String spoilt = ahead + " " + bad[next(bad.length)];
            if (spoilt.length() <= 160) {
                Check.due("the fault of " + spoilt, Check.text(new BoatsCalledIn(), spoilt), -100 - place - 1);
            }
        }
    }

    private static int kindOf(char c) {
        if (c >= 'a' && c <= 'z') {
            return 0;
        }
        if (c >= '0' && c <= '9') {
            return 1;
        }
        return c == ' ' || c == '\n' ? 3 : 2;
    }

    private static String blank(boolean must) {
        switch (next(6)) {
            case 0: return "  ";
            case 1: return "\n";
            case 2: return " ";
            default: return must ? " " : "";
        }
    }

    /** Each part is made with what it comes to, left in made. */
    private static String either(int open, int size) {
        String e = both(open, size);
        for (int i = next(8) / 6; i > 0; i--) {
            int left = made;
            e += blank(true) + "or" + blank(true) + both(open, size - 1);
            made = left != 0 || made != 0 ? 1 : 0;
        }
        return e;
    }

    private static String both(int open, int size) {
        String e = denied(open, size);
        for (int i = next(8) / 6; i > 0; i--) {
            int left = made;
            e += blank(true) + "and" + blank(true) + denied(open, size - 1);
            made = left != 0 && made != 0 ? 1 : 0;
        }
        return e;
    }

    private static String denied(int open, int size) {
        if (open < 5 && next(7) == 0) {
            String e = "not" + blank(true) + denied(open + 1, size);
            made = made == 0 ? 1 : 0;
            return e;
        }
        String e = sum(open, size);
        if (next(4) == 0) {
            int left = made;
            boolean less = next(2) == 0;
            e += blank(false) + (less ? "<" : "=") + blank(false) + sum(open, size - 1);
            made = (less ? left < made : left == made) ? 1 : 0;
        }
        return e;
    }

    private static String sum(int open, int size) {
        String e = product(open, size);
        for (int i = next(3); i > 0; i--) {
            int left = made;
            boolean plus = next(2) == 0;
            e += blank(false) + (plus ? "+" : "-") + blank(false) + product(open, size - 1);
            made = plus ? left + made : left - made;
        }
        return e;
    }

    private static String product(int open, int size) {
        String e = single(open, size);
        for (int i = next(5) / 3; i > 0; i--) {
            int left = made;
            e += blank(false) + "*" + blank(false) + single(open, size - 1);
            made = left * made;
        }
        return e;
    }

    private static String single(int open, int size) {
        int choice = next(8);
        if (choice == 0 && open < 5) {
            String e = "-" + blank(false) + single(open + 1, size);
            made = -made;
            return e;
        }
        if (choice < 4 && open < 5 && size > 0) {
            return "(" + blank(false) + either(open + 1, size - 1) + blank(false) + ")";
        }
        if (choice < 6) {
            int name = next(6);
            made = VALUES[name];
            return NAMES[name];
        }
        made = next(next(2) == 0 ? 10000 : 10);
        return (made < 1000 && next(5) == 0 ? "0" : "") + made;
    }
}
