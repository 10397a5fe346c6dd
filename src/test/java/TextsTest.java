/** Promises 5 to 7: feed, text, force. */
public final class TextsTest {
    private static final int BAD = -2, FULL = -4;

    public static void main(String[] args) {
        promise5();
        promise6Numbers();
        promise6Full();
        promise6Faults();
        promise6Depth();
        promise6Blanks();
        promise6Values();
        promise6AfterFaults();
        promise6Deepest();
        promise6Names();
        promise6FirstText();
        promise7();
        Check.end();
    }

    private static void promise5() {
        BoatsCalledIn x = new BoatsCalledIn();
        int[] bad = {-1, 256, Integer.MIN_VALUE, Integer.MAX_VALUE};
        for (int letter : bad) {
            Check.due("feed(" + letter + ")", x.feed(letter), BAD);
        }
        Check.due("the tape is empty", x.count(8), 0);
        for (int i = 1; i <= 160; i++) {
            Check.due("byte " + i, x.feed(i % 2 == 0 ? 0 : 255), i);
        }
        Check.due("one more", x.feed(32), FULL);
        Check.due("one more, and wrong", x.feed(256), BAD);
        Check.due("the tape has", x.count(8), 160);
        Check.due("its fault", x.text(), -100);
        Check.due("the tape is empty again", x.count(8), 0);
        Check.due("first byte", x.feed(112), 1);
    }

    private static void promise6Numbers() {
        BoatsCalledIn x = new BoatsCalledIn();
        Check.due("a text", Check.text(x, "price 1;hears 1;comes 1;"), 1);
        Check.due("the tape is empty", x.count(8), 0);
        Check.due("two texts", x.count(7), 2);
        Check.due("nothing", x.text(), -100);
        Check.due("still two texts", x.count(7), 2);
        Check.due("a fault", Check.text(x, "price ;"), -106);
        Check.due("the tape is empty by a fault, too", x.count(8), 0);
        Check.due("the next text", Check.text(x, "price 1;hears 1;comes 1;"), 2);
        StringBuilder full = new StringBuilder("price 1;hears 1;comes 1;");
        while (full.length() < 160) {
            full.append(' ');
        }
        Check.due("a text as long as the tape", Check.text(x, full.toString()), 3);
    }

    private static void promise6Full() {
        BoatsCalledIn x = new BoatsCalledIn();
        for (int i = 1; i < 6; i++) {
            Check.due("text " + i, Check.text(x, "price 1;hears 1;comes " + i + ";"), i);
        }
        Check.due("a seventh text", Check.text(x, "price 1;hears 1;comes 1;"), FULL);
        Check.due("the tape stays", x.count(8), 24);
        x.feed('?');
        Check.due("a seventh text, wrong", x.text(), FULL);
        Check.due("the tape stays again", x.count(8), 25);
        Check.due("six texts", x.count(7), 6);
    }

    private static void promise6Faults() {
        String[] texts = {
            "", "price", "price 4", "price 4 ; hears 1 ; comes 1", "price 4 ; hears 1 ; comes 1  ", " \n ",
            "hears 1;", "price 4 ; comes 1 ;", "price 4 ; hears 1 ; comes 1 ; x", "price 4 ; hears 1 ; comes 1 ; ;",
            "price 12345 ; hears", "price 9999 ;? ", "price 00001;", "price 4.", "Price 4;", "price far far ;",
            "price 1 2;", "price (1;", "price 1);", "price ();", "price + 1;", "price 1 +;", "price 1 * * 2;",
            "price 1 < 2 < 3;", "price 1 = 2 < 3;", "price not;", "price 1 not;", "price 1 < not 2;",
            "price 1 + not 2;", "price - not 2;", "price or 1;", "price 1 or;", "price 1 and or;", "price hears;",
            "price farr;", "price fa r;", "price4;", "pricefar;", "price;", "price 1\t;", "price 1 ; hears 1 ; comes 1 ;\000",
            "price minutes;", "price 1 ;; hears", "price \u00e4;", "price 1 /", "price 1 > 2;", "price 1; hears 1; price 1;",
            "price price;", "price comes;", "price farz;", "price car;", "frice 1;", "price 1; fears 1;",
            "price 1; hears 1; tomes 1;", "price 1 tor 1;", "price 1 bnd 1;", "price pot 1;", "price bind;", "price mate;",
            "price did;", "price goat;", "price linute;", "price 1, 2;", "price 1 'or' 2;", "price `1;", "price {1;",
            "price /1;", "price :1;", "price >1;", "price @1;", "price 1 \001 or 2;", "price 1\r;"};
        int[] places = {
            0, 5, 7, 27, 29, 3,
            0, 10, 30, 30,
            6, 12, 6, 7, 0, 10,
            8, 8, 7, 7, 6, 9, 10,
            12, 12, 9, 8, 10,
            10, 8, 6, 10, 12, 6,
            6, 6, 7, 0, 5, 7, 29,
            6, 9, 6, 8, 8, 18,
            6, 6, 6, 6, 0, 9,
            18, 8, 8, 6, 6, 6,
            6, 6, 6, 7, 8, 6, 6,
            6, 6, 6, 6, 8, 7};
        for (int i = 0; i < texts.length; i++) {
            BoatsCalledIn x = new BoatsCalledIn();
            Check.due("the fault of \"" + texts[i] + "\"", Check.text(x, texts[i]), -100 - places[i]);
            Check.due("no text more", x.count(7), 1);
        }
    }

    private static void promise6Depth() {
        String[] good = {"(((((1)))))", "not not not not not 1", "- - - - - 1", "not (not (- 1))", "((((-1-1-1))))",
            "not not not not not 1 and (1)", "- - - - - 1 * (- 1)", "(((((1-1)))))-(1)", "not not(((1)))<(((1)))"};
        for (String e : good) {
            BoatsCalledIn x = new BoatsCalledIn();
            Check.due("price " + e, Check.text(x, "price " + e + ";hears 1;comes 1;"), 1);
        }
        String[] bad = {"((((((1))))))", "not not not not not not 1", "- - - - - - 1", "not not not not not (1)",
            "(((((- 1)))))", "(((((not 1)))))", "((((((", "not(not(not(", "(((((1+-1)))))", "(((((1-(1))))))", "not not(((1)))<((((1))))"};
        int[] places = {5, 20, 10, 20, 5, 5, 5, 11, 7, 7, 18};
        for (int i = 0; i < bad.length; i++) {
            BoatsCalledIn x = new BoatsCalledIn();
            Check.due("price " + bad[i], Check.text(x, "price " + bad[i]), -100 - 6 - places[i]);
        }
    }

    private static void promise6Blanks() {
        String[] texts = {"price 1;hears 1;comes 1;", "\n price\n1 ;\nhears  1;comes 1\n;\n ", "price(1);hears(1);comes(1);",
            "price 1or 2;hears not(1)and 2;comes 3<4;", "price-1;hears-1;comes 1--1;"};
        BoatsCalledIn x = new BoatsCalledIn();
        for (int i = 0; i < texts.length; i++) {
            Check.due("\"" + texts[i] + "\"", Check.text(x, texts[i]), i + 1);
        }
    }

    /** Faults leave nothing of their texts behind. */
    private static void promise6AfterFaults() {
        BoatsCalledIn x = new BoatsCalledIn();
        for (int i = 0; i < 20; i++) {
            Check.due("a fault", Check.text(x, "price 1+1*9+0*0+3+(7;"), -100 - 20);
        }
        Check.due("a text after faults", Check.text(x, "price 3;hears 1;comes boat=0;"), 1);
        x.force(1);
        x.boat(0, 0, 5000);
        x.boat(0, 0, 5000);
        x.time(6);
        Check.due("its price", x.told(0, 10), 3);
        Check.due("boat 0 comes", x.told(0, 9), 1);
        Check.due("boat 1 doesn't", x.told(1, 9), 0);
    }

    /** All that can wait for its other side waits at each of the six levels. */
    private static void promise6Deepest() {
        for (int last = 0; last < 2; last++) {
            StringBuilder e = new StringBuilder();
            for (int level = 0; level < 5; level++) {
                e.append("0or 1and 8<8+1*(");
            }
            e.append("0or 1and 8<8+1*").append(last).append(")))))");
            BoatsCalledIn x = new BoatsCalledIn();
            Check.due("the deepest", Check.text(x, "price 1;hears 1;comes " + e + ";"), 1);
            x.force(1);
            x.boat(0, 0, 5000);
            Check.due("the deepest is true", x.told(0, 9), last);
        }
    }

    /** What an E comes to, asked for through comes (E) = value, and by a value beside it. */
    private static void value(String e, String want) {
        BoatsCalledIn x = new BoatsCalledIn();
        x.force(Check.text(x, "price 1; hears 1; comes (" + e + ") = " + want + ";"));
        x.boat(0, 0, 5000);
        Check.due(e + " = " + want, x.told(0, 9), 1);
        BoatsCalledIn y = new BoatsCalledIn();
        y.force(Check.text(y, "price 1; hears 1; comes (" + e + ") = " + want + " + 1;"));
        y.boat(0, 0, 5000);
        Check.due(e + " = " + want + " + 1", y.told(0, 9), 0);
    }

    private static void promise6Values() {
        String[][] values = {
            {"0", "0"}, {"0007", "7"}, {"9999", "9999"}, {"2 + 3 * 4", "14"}, {"(2 + 3) * 4", "20"}, {"2 * 3 + 4", "10"},
            {"9 - 3 - 2", "4"}, {"9 - (3 - 2)", "8"}, {"-3 + 5", "2"}, {"- 3", "-3"}, {"2 - -3", "5"}, {"- 2 * 3", "-6"},
            {"2 * - 3", "-6"}, {"- - 3", "3"}, {"-(1 - 4)", "3"},
            {"1 < 2", "1"}, {"2 < 2", "0"}, {"3 < 2", "0"}, {"-1 < 0", "1"}, {"2 = 2", "1"}, {"2 = 3", "0"},
            {"1 + 1 = 2", "1"}, {"1 + 1 < 2 * 1", "0"}, {"(1 < 2) + (3 < 4)", "2"},
            {"not 0", "1"}, {"not 5", "0"}, {"not not 5", "1"}, {"not 1 < 0", "1"}, {"not 0 = 1", "1"}, {"not -1", "0"},
            {"5 and 6", "1"}, {"5 and 0", "0"}, {"0 and 0", "0"}, {"5 or 0", "1"}, {"0 or 0", "0"}, {"0 or 7", "1"},
            {"1 or 0 and 0", "1"}, {"(1 or 0) and 0", "0"}, {"0 and 0 or 1", "1"}, {"not 0 and 0", "0"},
            {"not 0 or 1", "1"}, {"not (0 or 1)", "0"}, {"not 1 and 1", "0"}, {"-1 and -1", "1"}, {"0 - 1 or 0", "1"},
            {"1 and 1 and 0", "0"}, {"0 or 0 or 1", "1"}, {"1 + (2 or 3)", "2"}, {"7", "7"}, {"(7)", "7"},
            {"9999 * 9999 * 9999", "9999 * 9999 * 9999"}, {"0 < 9999 * 9999 * 27", "0"}, {"0 < 9999 * 9999 * 42", "0"},
            {"0 < 9999 * 9999 * 43", "1"}, {"4096 * 4096 * 256", "0"}, {"0 < 4096 * 4096 * 128", "0"},
            {"0 < 4096 * 4096 * 128 - 1", "1"}, {"-(4096 * 4096 * 128)", "4096 * 4096 * 128"}};
        for (String[] v : values) {
            value(v[0], v[1]);
        }
    }

    private static void promise6Names() {
        BoatsCalledIn x = new BoatsCalledIn();
        int text = Check.text(x, "price far*9+wind;hears hid=0 or 1;comes boat=2 or late<0-3 and minute=6;");
        Check.due("a text of all names", text, 1);
        x.force(text);
        Check.boat(x, 0, 0, 9, 0, 5);
        Check.boat(x, 0, 0, 10, 0, 9);
        Check.boat(x, 0, 0, 11, 4, 6);
        x.set(5, 0, 3);
        Check.due("boat 2 would come", x.told(2, 9), 1);
        Check.due("boat 1 wouldn't, too early", x.told(1, 9), 0);
        x.time(5);
        Check.due("boat 1 wouldn't in minute 5", x.told(1, 9), 0);
        x.set(2, 1, 10);
        x.time(1);
        Check.due("boat 1 would in minute 6", x.told(1, 9), 1);
        Check.due("boat 0 wouldn't, for its lateness", x.told(0, 9), 0);
        Check.due("a price by far and wind", x.told(0, 10), 9 * 2 + 3);
        x.time(1);
        Check.due("boat 1 wouldn't in minute 7", x.told(1, 9), 0);
        hid();
    }

    private static void hid() {
        BoatsCalledIn x = new BoatsCalledIn();
        x.force(Check.text(x, "price 1; hears 1; comes hid = 1;"));
        x.boat(1, 9, 5000);
        int[] hidden = {0, 0, 0, 0xf0, 0, 0};
        for (int y = 0; y < 6; y++) {
            Check.due("hidden cells of row " + y, x.where(0, y), hidden[y]);
        }
        x.set(4, 0, 8);
        Check.due("behind the island at the left", x.where(0, 1), 0xfe);
        Check.due("no more in the old row", x.where(0, 3), 0);
        x.set(4, 0, 47);
        Check.due("behind the island at the right", x.where(0, 5), 0);
    }

    private static void promise6FirstText() {
        BoatsCalledIn x = new BoatsCalledIn();
        Check.boat(x, 0, 0, 26, 0, 30);
        Check.boat(x, 0, 0, 28, 0, 30);
        x.time(25);
        Check.due("5 minutes early", x.told(0, 9), 0);
        x.time(1);
        Check.due("4 minutes early", x.told(0, 9), 1);
        Check.due("4 minutes early, hidden", x.told(1, 9), 0);
        x.time(5);
        Check.due("a minute late", x.told(0, 10), 4);
    }

    private static void promise7() {
        BoatsCalledIn x = new BoatsCalledIn();
        x.boat(0, 0, 5000);
        Check.text(x, "price 1; hears 1; comes 1;");
        int[] bad = {-1, 2, 6, Integer.MIN_VALUE, Integer.MAX_VALUE};
        for (int text : bad) {
            Check.due("force(" + text + ")", x.force(text), BAD);
        }
        Check.due("the rule is the first yet", x.count(9), 0);
        Check.due("told by the first", x.told(0, 9), 0);
        Check.due("force(1)", x.force(1), 0);
        Check.due("told by the second", x.told(0, 9), 1);
        Check.due("force(1) again", x.force(1), 1);
        Check.due("the rule", x.count(9), 1);
        Check.due("force(0)", x.force(0), 1);
        Check.due("told by the first again", x.told(0, 9), 0);
    }
}
