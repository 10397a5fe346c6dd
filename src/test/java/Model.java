import java.util.ArrayList;
import java.util.Arrays;
import java.util.List;
import java.util.function.ToIntFunction;

/**
 * The document once more, as slowly and plainly as its words go, with all of the Java library: what each call of a walk
 * (ModelTest) is to answer. It tries all orders of a launch, and reads texts token by token into functions.
 */
final class Model {
    private static final int NONE = -1, BAD = -2, STATE = -3, FULL = -4;
    private static final int NOTHING = -11, OUTSIDE = -12, OTHER = -13, BELOW = -14;
    private static final long NO = -4611686018427387904L;

    private static final class Ship {
        int kind, cell, number, out, paid, how, in = NONE;

        Ship copy() {
            Ship s = new Ship();
            s.kind = kind;
            s.cell = cell;
            s.number = number;
            s.out = out;
            s.paid = paid;
            s.how = how;
            s.in = in;
            return s;
        }
    }

    /** All that an image keeps. */
    private static final class Lake {
        List<Ship> ships = new ArrayList<>();
        int island = 27, wind, minute, tows = 2, speed = 1, waiting, takings, rule;

        Lake copy() {
            Lake l = new Lake();
            for (Ship s : ships) {
                l.ships.add(s.copy());
            }
            l.island = island;
            l.wind = wind;
            l.minute = minute;
            l.tows = tows;
            l.speed = speed;
            l.waiting = waiting;
            l.takings = takings;
            l.rule = rule;
            return l;
        }
    }

    /** What the names of a text stand for. */
    private record Names(int far, int wind, int late, int hid, int boat, int minute) {
    }

    private static final class Fault extends RuntimeException {
        private static final long serialVersionUID = 1;
        final int place;

        Fault(int place) {
            super(null, null, false, false);
            this.place = place;
        }
    }

    private record Token(String text, int place) {
    }

    private Lake lake = new Lake();
    private Lake image;
    private final List<List<ToIntFunction<Names>>> texts = new ArrayList<>();
    private String tape = "";
    private final int[][] sheets = new int[4][];
    private final int[] sorts = new int[4];

    Model() {
        texts.add(new Reader("price 4 ; hears not hid ; comes 0 - 5 < late ;").text());
    }

    // ---- boats

    int boat(int kind, int what, int time) {
        int cell = what / 100;
        int number = what % 100;
        int paid = time / 1000;
        boolean good = kind >= 0 && kind <= 5 && what >= 0 && time >= 0 && cell <= 47 && number <= 9 && paid >= 5 && paid <= 240;
        if (!good) {
            return BAD;
        }
        if (lake.ships.size() == 7) {
            return FULL;
        }
        Ship s = new Ship();
        s.kind = kind;
        s.cell = cell;
        s.number = number;
        s.paid = paid;
        s.out = time % 1000;
        lake.ships.add(s);
        return lake.ships.size() - 1;
    }

    private boolean none(int boat) {
        return boat < 0 || boat >= lake.ships.size();
    }

    int set(int what, int of, int v) {
        int[][] bounds = {{0, 47}, {0, 999}, {5, 240}, {0, 9}, {0, 47}, {0, 9}, {1, 6}, {1, 9}, {0, 20}};
        if (what < 0 || what > 8 || what < 4 && none(of) || v < bounds[what][0] || v > bounds[what][1]) {
            return BAD;
        }
        Ship s = what < 4 ? lake.ships.get(of) : null;
        int was;
        switch (what) {
            case 0 -> { was = s.cell; s.cell = v; }
            case 1 -> { was = s.out; s.out = v; }
            case 2 -> { was = s.paid; s.paid = v; }
            case 3 -> { was = s.number; s.number = v; }
            case 4 -> { was = lake.island; lake.island = v; }
            case 5 -> { was = lake.wind; lake.wind = v; }
            case 6 -> { was = lake.tows; lake.tows = v; }
            case 7 -> { was = lake.speed; lake.speed = v; }
            default -> { was = lake.waiting; lake.waiting = v; }
        }
        return was;
    }

    int told(int boat, int what) {
        if (none(boat) || what < 0 || what > 10) {
            return BAD;
        }
        Ship s = lake.ships.get(boat);
        int[] plain = {s.cell, s.out, s.paid, s.number, s.kind, s.how, s.in};
        if (what < 7) {
            return plain[what];
        }
        return what == 7 ? rows(s) : what == 8 ? hears(s, lake.wind) : what == 9 ? (would(boat) ? 1 : 0) : owes(boat, lake.minute);
    }

    private int rows(Ship s) {
        int w = lake.wind;
        int boat = 2 + w / 2;
        int[] all = {boat, boat - 1, boat + w, boat - 1 + s.number, boat + w, 2 * boat};
        return Math.max(1, all[s.kind]);
    }

    private static int hears(Ship s, int w) {
        int boat = 12 - w;
        int[] all = {boat, boat + s.number, boat - 3, boat + s.number, (boat - 3) / 2, s.number % 2 == 1 ? 0 : boat};
        return Math.max(0, all[s.kind]);
    }

    private int owes(int boat, int minute) {
        Ship s = lake.ships.get(boat);
        int late = Math.max(0, minute - s.out - s.paid);
        int price = texts.get(lake.rule).get(0).applyAsInt(names(boat, s.cell, minute, lake.wind));
        price = price < 0 ? 0 : price > 99 ? 99 : price;
        int owed = price * (int) Math.ceil(late / 15.0);
        int[] all = {owed, owed, owed / 2, 0, owed / 2 + 2, owed > 0 ? owed + s.number : 0};
        return all[s.kind];
    }

    private static int far(int from, int to) {
        return Math.abs(from / 8 - to / 8) + Math.abs(from % 8 - to % 8);
    }

    private Names names(int boat, int cell, int minute, int wind) {
        Ship s = lake.ships.get(boat);
        boolean hid = cell / 8 == lake.island / 8 && cell > lake.island;
        return new Names(far(0, cell), wind, minute - s.out - s.paid, hid ? 1 : 0, boat, minute);
    }

    private boolean would(int boat) {
        return would(boat, lake.ships.get(boat).cell, lake.minute, lake.wind);
    }

    private boolean would(int boat, int cell, int minute, int wind) {
        Names names = names(boat, cell, minute, wind);
        List<ToIntFunction<Names>> rule = texts.get(lake.rule);
        boolean near = far(0, cell) <= hears(lake.ships.get(boat), wind);
        return near && rule.get(1).applyAsInt(names) != 0 && rule.get(2).applyAsInt(names) != 0;
    }

    // ---- texts

    int feed(int letter) {
        if (letter < 0 || letter > 255) {
            return BAD;
        }
        if (tape.length() == 160) {
            return FULL;
        }
        tape += (char) letter;
        return tape.length();
    }

    int text() {
        if (texts.size() == 6) {
            return FULL;
        }
        String text = tape;
        tape = "";
        try {
            texts.add(new Reader(text).text());
            return texts.size() - 1;
        } catch (Fault fault) {
            return -100 - fault.place;
        }
    }

    int force(int text) {
        if (text < 0 || text >= texts.size()) {
            return BAD;
        }
        int was = lake.rule;
        lake.rule = text;
        return was;
    }

    /** Reads a text: its tokens are cut first, its faults told as they are met. */
    private static final class Reader {
        private static final List<String> NAMES = List.of("far", "wind", "late", "hid", "boat", "minute");
        private static final List<String> KEYS = List.of("price", "hears", "comes", "or", "and", "not");
        private final List<Token> tokens = new ArrayList<>();
        private int next;
        private int open;

        Reader(String text) {
            int i = 0;
            while (i < text.length()) {
                int end = i + 1;
                char c = text.charAt(i);
                if (c >= 'a' && c <= 'z') {
                    while (end < text.length() && text.charAt(end) >= 'a' && text.charAt(end) <= 'z') {
                        end++;
                    }
                } else if (c >= '0' && c <= '9') {
                    while (end < text.length() && text.charAt(end) >= '0' && text.charAt(end) <= '9') {
                        end++;
                    }
                }
                if (c != ' ' && c != '\n') {
                    tokens.add(new Token(text.substring(i, end), i));
                }
                i = end;
            }
            tokens.add(new Token("", text.length()));
        }

        List<ToIntFunction<Names>> text() {
            List<ToIntFunction<Names>> all = new ArrayList<>();
            for (String key : List.of("price", "hears", "comes")) {
                want(key);
                all.add(e());
                want(";");
            }
            want("");
            return all;
        }

        private boolean is(String text) {
            return tokens.get(next).text.equals(text);
        }

        private boolean take(String text) {
            if (is(text)) {
                next++;
                return true;
            }
            return false;
        }

        private void want(String text) {
            if (!take(text)) {
                throw fault();
            }
        }

        private Fault fault() {
            return new Fault(tokens.get(Math.min(next, tokens.size() - 1)).place);
        }

        private ToIntFunction<Names> e() {
            ToIntFunction<Names> left = and();
            while (take("or")) {
                ToIntFunction<Names> a = left;
                ToIntFunction<Names> b = and();
                left = n -> a.applyAsInt(n) != 0 || b.applyAsInt(n) != 0 ? 1 : 0;
            }
            return left;
        }

        private ToIntFunction<Names> and() {
            ToIntFunction<Names> left = not();
            while (take("and")) {
                ToIntFunction<Names> a = left;
                ToIntFunction<Names> b = not();
                left = n -> a.applyAsInt(n) != 0 && b.applyAsInt(n) != 0 ? 1 : 0;
            }
            return left;
        }

        private void enter(String text) {
            if (open == 5) {
                throw fault();
            }
            want(text);
            open++;
        }

        private ToIntFunction<Names> not() {
            if (is("not")) {
                enter("not");
                ToIntFunction<Names> a = not();
                open--;
                return n -> a.applyAsInt(n) == 0 ? 1 : 0;
            }
            ToIntFunction<Names> a = sum();
            boolean less = is("<");
            if (!take("<") && !take("=")) {
                return a;
            }
            ToIntFunction<Names> b = sum();
            return n -> (less ? a.applyAsInt(n) < b.applyAsInt(n) : a.applyAsInt(n) == b.applyAsInt(n)) ? 1 : 0;
        }

        private ToIntFunction<Names> sum() {
            ToIntFunction<Names> left = term();
            while (is("+") || is("-")) {
                int sign = take("+") ? 1 : -1;
                if (sign == -1) {
                    want("-");
                }
                ToIntFunction<Names> a = left;
                ToIntFunction<Names> b = term();
                left = n -> a.applyAsInt(n) + sign * b.applyAsInt(n);
            }
            return left;
        }

        private ToIntFunction<Names> term() {
            ToIntFunction<Names> left = one();
            while (take("*")) {
                ToIntFunction<Names> a = left;
                ToIntFunction<Names> b = one();
                left = n -> a.applyAsInt(n) * b.applyAsInt(n);
            }
            return left;
        }

        private ToIntFunction<Names> one() {
            String token = tokens.get(next).text;
            if (token.matches("[0-9]{1,4}")) {
                next++;
                int number = Integer.parseInt(token);
                return n -> number;
            }
            if (NAMES.contains(token) && !KEYS.contains(token)) {
                next++;
                int name = NAMES.indexOf(token);
                return n -> new int[] {n.far, n.wind, n.late, n.hid, n.boat, n.minute}[name];
            }
            if (is("-")) {
                enter("-");
                ToIntFunction<Names> a = one();
                open--;
                return n -> -a.applyAsInt(n);
            }
            enter("(");
            ToIntFunction<Names> a = e();
            want(")");
            open--;
            return a;
        }
    }

    // ---- calls

    private int needs(Ship s) {
        return far(0, s.cell) * rows(s);
    }

    int call(int boat) {
        if (none(boat)) {
            return BAD;
        }
        Ship s = lake.ships.get(boat);
        if (s.how != 0) {
            return STATE;
        }
        if (!would(boat)) {
            return 0;
        }
        s.how = 1;
        s.in = lake.minute + needs(s);
        return 1;
    }

    int time(int n) {
        if (n < 0 || n > 240) {
            return BAD;
        }
        return pass(n);
    }

    private int pass(int n) {
        lake.minute = Math.min(9999, lake.minute + n);
        int came = 0;
        for (int i = 0; i < lake.ships.size(); i++) {
            Ship s = lake.ships.get(i);
            if (s.how == 1 && s.in <= lake.minute) {
                comeIn(i, s.in);
                came++;
            }
        }
        return came;
    }

    private void comeIn(int boat, int minute) {
        lake.takings += owes(boat, minute);
        lake.waiting = Math.max(0, lake.waiting - 1);
        lake.ships.get(boat).how = 2;
        lake.ships.get(boat).in = minute;
    }

    int nobody() {
        int bits = 0;
        for (int i = 0; i < lake.ships.size(); i++) {
            bits += lake.ships.get(i).how == 0 && !would(i) ? 1 << i : 0;
        }
        return bits;
    }

    int callAt(int boat) {
        if (none(boat)) {
            return BAD;
        }
        Ship s = lake.ships.get(boat);
        if (s.how != 0) {
            return STATE;
        }
        for (int n = 0; n <= 240; n++) {
            int minute = lake.minute + n;
            if (would(boat, s.cell, minute, lake.wind) && minute + needs(s) >= s.out + s.paid) {
                return n;
            }
        }
        return NONE;
    }

    /** A copy of the lake on which all on the lake have been called now. */
    private List<Ship> allCalled() {
        Lake before = lake;
        lake = lake.copy();
        for (int i = 0; i < lake.ships.size(); i++) {
            call(i);
        }
        List<Ship> called = lake.ships;
        lake = before;
        return called;
    }

    int allIn() {
        int latest = NONE;
        for (Ship s : allCalled()) {
            latest = s.how == 1 ? Math.max(latest, s.in) : latest;
        }
        return latest == NONE ? lake.minute : latest;
    }

    // ---- the launch

    private boolean onTheLake(int set) {
        for (int i = 0; i < 32; i++) {
            if ((set >>> i & 1) == 1 && (none(i) || lake.ships.get(i).how != 0)) {
                return false;
            }
        }
        return true;
    }

    /** The minutes, then the boats in the order in which they are fetched. */
    private int[] best(int set) {
        int[] best = new int[1 + Integer.bitCount(set)];
        best[0] = Integer.MAX_VALUE;
        goOn(set, best, new int[best.length], 1, 0, 0);
        return best;
    }

    private void goOn(int left, int[] best, int[] order, int number, int at, int towed) {
        if (left == 0) {
            int minutes = order[0] + far(at, 0) * (lake.speed + towed);
            if (minutes < best[0]) {
                System.arraycopy(order, 0, best, 0, order.length);
                best[0] = minutes;
            }
            return;
        }
        if (towed == lake.tows) {
            int minutes = order[0];
            order[0] += far(at, 0) * (lake.speed + towed);
            goOn(left, best, order, number, 0, 0);
            order[0] = minutes;
            return;
        }
        for (int i = 0; i < lake.ships.size(); i++) {
            if ((left >> i & 1) == 1) {
                int cell = lake.ships.get(i).cell;
                int minutes = order[0];
                order[0] += far(at, cell) * (lake.speed + towed);
                order[number] = i;
                goOn(left - (1 << i), best, order, number + 1, cell, towed + 1);
                order[0] = minutes;
            }
        }
    }

    int fetch(int set, int what) {
        if (!onTheLake(set) || what < 0 || what > 7) {
            return BAD;
        }
        int[] best = best(set);
        return what < best.length ? best[what] : NONE;
    }

    int launch(int set) {
        if (!onTheLake(set)) {
            return BAD;
        }
        int minutes = best(set)[0];
        pass(minutes);
        for (int i = 0; i < lake.ships.size(); i++) {
            if ((set >> i & 1) == 1) {
                comeIn(i, lake.minute);
            }
        }
        return minutes;
    }

    int one(int what) {
        if (what != 0 && what != 1) {
            return BAD;
        }
        int one = NONE;
        for (int i = lake.ships.size() - 1; i >= 0; i--) {
            if (lake.ships.get(i).how == 0 && (one == NONE || best(1 << i)[0] <= best(1 << one)[0])) {
                one = i;
            }
        }
        return what == 0 ? one : one == NONE ? 0 : best(1 << one)[0];
    }

    int thunder(int n, int what) {
        if (n < 0 || n > 240 || what < 0 || what > 1) {
            return BAD;
        }
        int bits = 0;
        List<Ship> called = allCalled();
        for (int i = 0; i < called.size(); i++) {
            Ship s = called.get(i);
            bits += s.how == 2 || s.how == 1 && s.in <= lake.minute + n ? 1 << i : 0;
        }
        int nobody = nobody();
        int most = 0;
        for (int set = 0; set < 128 && what == 1; set++) {
            if ((set & nobody) == set && Integer.bitCount(set) > most && best(set)[0] <= n) {
                most = Integer.bitCount(set);
            }
        }
        return what == 0 ? bits : most;
    }

    int stand() {
        List<Integer> minutes = new ArrayList<>();
        for (Ship s : allCalled()) {
            if (s.how == 1) {
                minutes.add(s.in - lake.minute);
            }
        }
        minutes.sort(null);
        int together = 0;
        for (int i = 0; i < lake.waiting; i++) {
            together += i < minutes.size() ? minutes.get(i) : 240;
        }
        return together;
    }

    int heard(int sheet) {
        if (sheet < 0 || sheet > 3) {
            return BAD;
        }
        int[] row = sheets[sheet];
        if (row == null) {
            return NOTHING;
        }
        if (row.length % 2 == 1) {
            return BAD;
        }
        for (int i = 0; i < row.length; i += 2) {
            boolean such = !none(row[i]) && lake.ships.get(row[i]).how == 0 && (row[i + 1] == 0 || row[i + 1] == 1);
            if (!such || would(row[i]) != (row[i + 1] == 1)) {
                return i / 2;
            }
        }
        return NONE;
    }

    int where(int boat, int y) {
        if (none(boat) || y < 0 || y > 5) {
            return BAD;
        }
        int bits = 0;
        for (int x = 7; x >= 0; x--) {
            bits = 2 * bits + (would(boat, 8 * y + x, lake.minute, lake.wind) ? 1 : 0);
        }
        return bits;
    }

    private int comeBy(int seed) {
        long z = Math.floorMod(1103515245L * seed + 12345L, 1L << 32);
        int wind = (int) (z / 1024 % 10);
        int come = 0;
        for (int i = 0; i < lake.ships.size(); i++) {
            Ship s = lake.ships.get(i);
            come += s.how == 0 && would(i, s.cell, lake.minute, wind) ? 1 : 0;
        }
        return come;
    }

    int drawn(int seed) {
        return comeBy(seed);
    }

    long chance(int seed, int n, int part) {
        if (n < 1 || n > 20 || part < 0 || part > 1) {
            return NO;
        }
        int all = 0;
        for (int i = 0; i < n; i++) {
            all += comeBy(seed + i) == count(1) ? 1 : 0;
        }
        int above = all;
        int below = n;
        for (int by = 2; by <= 20; by++) {
            while (above % by == 0 && below % by == 0) {
                above /= by;
                below /= by;
            }
        }
        return part == 0 ? above : below;
    }

    int image() {
        image = lake.copy();
        return image.ships.size();
    }

    int back() {
        if (image == null) {
            return STATE;
        }
        lake = image.copy();
        return lake.ships.size();
    }

    int count(int what) {
        int[] how = new int[3];
        for (Ship s : lake.ships) {
            how[s.how]++;
        }
        int[] all = {lake.ships.size(), how[0], how[1], how[2], lake.minute, lake.takings, lake.waiting, texts.size(),
            tape.length(), lake.rule};
        return what < 0 || what >= all.length ? BAD : all[what];
    }

    // ---- the host

    int sheet(int sheet, int sort, int n) {
        if (sheet < 0 || sheet > 3 || sort < -1 || sort > 2 || sort >= 0 && n > 40) {
            return BAD;
        }
        if (sort >= 0 && n < 0) {
            return BELOW;
        }
        sheets[sheet] = sort < 0 ? null : new int[n];
        sorts[sheet] = sort;
        return 1;
    }

    int cell(int sheet, int i, int v) {
        if (sheet < 0 || sheet > 3) {
            return BAD;
        }
        if (sheets[sheet] == null) {
            return NOTHING;
        }
        if (i < 0 || i >= sheets[sheet].length) {
            return OUTSIDE;
        }
        sheets[sheet][i] = sorts[sheet] == 0 ? (byte) v : sorts[sheet] == 1 ? (short) v : v;
        return 1;
    }

    int copy(int sheet, int i, int other, int j, int n) {
        if (sheet < 0 || sheet > 3 || other < 0 || other > 3) {
            return BAD;
        }
        if (sheets[sheet] == null || sheets[other] == null) {
            return NOTHING;
        }
        if (sorts[sheet] != sorts[other]) {
            return OTHER;
        }
        int[] from = sheets[sheet];
        int[] to = sheets[other];
        if (n < 0 || i < 0 || j < 0 || n > from.length || i > from.length - n || n > to.length || j > to.length - n) {
            return OUTSIDE;
        }
        int[] were = Arrays.copyOfRange(from, i, i + n);
        for (int k = 0; k < n; k++) {
            to[j + k] = were[k];
        }
        return n;
    }

    int boats(int sheet, int sort, int from, int n) {
        if (sheet < 0 || sheet > 3 || sort < 0 || sort > 2 || n < 0 || n > 7) {
            return BAD;
        }
        int[] row = sheets[sheet];
        if (row == null) {
            return NOTHING;
        }
        if (sorts[sheet] != sort) {
            return OTHER;
        }
        int came = 0;
        for (long at = from; at < from + 3L * n; at += 3) {
            if (at < 0 || at + 2 >= row.length) {
                return OUTSIDE;
            }
            came += boat(row[(int) at], row[(int) at + 1], row[(int) at + 2]) >= 0 ? 1 : 0;
        }
        return came;
    }

    int taken(int boat, int k) {
        if (k < 0 || k > 5) {
            return BAD;
        }
        if (none(boat)) {
            return NOTHING;
        }
        String[] kinds = {"0", "01", "02", "013", "024", "05"};
        Ship s = lake.ships.get(boat);
        return kinds[s.kind].indexOf('0' + k) >= 0 ? s.number : OTHER;
    }
}
