/** What all tests share: they tell each answer that is not the one due, and end with 1 if there was one. */
final class Check {
    private static int wrong = 0;
    private static int asked = 0;

    static {
        Thread watch = new Thread(Check::giveUp);
        watch.setDaemon(true);
        watch.start();
    }

    private Check() {
    }

    /** A call that doesn't end is a wrong answer, too. */
    private static void giveUp() {
        try {
            Thread.sleep(120_000);
        } catch (InterruptedException e) {
            return;
        }
        System.out.println("a call doesn't end");
        System.out.flush();
        Runtime.getRuntime().halt(1);
    }

    static void due(String call, long got, long want) {
        asked++;
        if (got != want) {
            wrong++;
            System.out.println(call + " answered " + got + ", due is " + want);
        }
    }

    static void end() {
        System.out.println(asked + " answers asked for, " + wrong + " of them not as due");
        if (wrong != 0) {
            System.exit(1);
        }
    }

    /** Feeds a text byte by byte, and reads it. */
    static int text(BoatsCalledIn x, String text) {
        for (int i = 0; i < text.length(); i++) {
            x.feed(text.charAt(i));
        }
        return x.text();
    }

    /** Puts a rule of these three in force. */
    static void rule(BoatsCalledIn x, String price, String hears, String comes) {
        int text = text(x, "price " + price + ";hears " + hears + ";comes " + comes + ";");
        due("a rule of " + price + ", " + hears + ", " + comes, x.force(text) >= 0 ? 1 : 0, 1);
    }

    /** A new object by whose rule every boat comes that hears it, at any time, for a price. */
    static BoatsCalledIn willing(int price) {
        BoatsCalledIn x = new BoatsCalledIn();
        x.force(text(x, "price " + price + "; hears 1; comes 1;"));
        return x;
    }

    static int boat(BoatsCalledIn x, int kind, int number, int cell, int out, int paid) {
        return x.boat(kind, 100 * cell + number, 1000 * paid + out);
    }

    /** Passes any number of minutes. */
    static void pass(BoatsCalledIn x, int minutes) {
        for (int left = minutes; left > 0; left -= 240) {
            x.time(Math.min(left, 240));
        }
    }

    /** A sheet of a sort with these numbers. */
    static void sheet(BoatsCalledIn x, int sheet, int sort, int... numbers) {
        x.sheet(sheet, sort, numbers.length);
        for (int i = 0; i < numbers.length; i++) {
            x.cell(sheet, i, numbers[i]);
        }
    }

    /** All that told, count, where and set tell, in one text (some 100 calls), to see whether anything has changed. */
    static String seen(BoatsCalledIn x) {
        StringBuilder all = new StringBuilder();
        for (int what = 0; what < 10; what++) {
            all.append(x.count(what)).append(' ');
        }
        for (int boat = 0; boat < x.count(0); boat++) {
            for (int what = 0; what < 11; what++) {
                all.append(x.told(boat, what)).append(' ');
            }
        }
        for (int y = 0; y < 6 && x.count(0) > 0; y++) {
            all.append(x.where(0, y)).append(' ');
        }
        for (int what = 4; what < 9; what++) {
            int was = x.set(what, 0, 5);
            all.append(was).append(' ');
            x.set(what, 0, was);
        }
        return all.toString();
    }

    static void unchanged(String call, String before, BoatsCalledIn x) {
        due(call + ", and nothing changed", before.equals(seen(x)) ? 1 : 0, 1);
    }
}
