/** The edges that the document names of the tape and of texts, and by promises 5 to 7: one test for each sentence. */
public final class TextEdgesTest {
    private static final int BAD = -2, FULL = -4;
    private static final int LOW = Integer.MIN_VALUE, HIGH = Integer.MAX_VALUE;
    private static final String[] NAMES = {"far", "wind", "late", "hid", "boat", "minute"};
    private static final String[] KEYS = {"price", "hears", "comes", "or", "and", "not"};
    private static final String TAIL = ";hears 1;comes 1;";

    public static void main(String[] args) {
        bytesAre0To255();
        theTapeHas160BytesAtMost();
        theLongestE();
        feedIsBadAheadOfFull();
        tokensAreAsLongAsCanBe();
        wordsAreOfSmallLetters();
        numbersHaveFourDigitsAtMost();
        anyByteBehindANumber();
        anyByteAheadOfANumber();
        blanksAre32And10();
        aTextHasThreeClauses();
        aTextEndsWithItsLastSign();
        oneComparisonInANot();
        notIsNoPartOfASum();
        namesAreSix();
        keysAreNoNames();
        wordsThatAreNearlyNames();
        aTextThatEndsTooEarly();
        faultsAreTheFirstOnes();
        faultsAtTheTapesEnd();
        parenthesesFiveDeep();
        notsFiveDeep();
        minusesFiveDeep();
        mixedFiveDeep();
        theMostThatWaits();
        whatIsClosedIsOpenNoMore();
        aMinusBehindAOneOpensNothing();
        sumsWrap();
        productsWrap();
        theLeastIntDeniedIsItself();
        truthsAre1Or0();
        whatIsNot0IsTrue();
        comparisonsAreOfSignedInts();
        bindingAndOrder();
        farIs0To12();
        windIs0To9();
        lateMayBeBelow0();
        hidIs1Or0();
        boatIsWhichOneItIs();
        minuteIsTheMinute();
        priceIs0To99();
        hearsIsBesidesHears();
        comesIsAskedOfWhoHears();
        textsAreSixAtMost();
        fullIsAheadOfAll();
        theTapeIsEmptyThen();
        faultsAreToldBelow100();
        textZeroIsTheRuleAtFirst();
        textZeroByItsWords();
        forceAnswersWhichWas();
        forceRefuses();
        Check.end();
    }

    /** What text answers to a text, on an object of its own. */
    private static void text(String text, int want) {
        Check.due("\"" + text + "\"", Check.text(new BoatsCalledIn(), text), want);
    }

    private static void good(String price) {
        text("price " + price + TAIL, 1);
    }

    /** The fault of a price, at a place of the price itself. */
    private static void fault(String price, int place) {
        text("price " + price + TAIL, -106 - place);
    }

    /** That an E (of numbers alone) comes to a number of 0 .. 99, told by a price. */
    private static void is(String e, int value) {
        BoatsCalledIn x = new BoatsCalledIn();
        Check.rule(x, e, "1", "1");
        Check.boat(x, 0, 0, 0, 0, 5);
        x.time(6);
        Check.due(e, x.told(0, 10), value);
    }

    private static void isTrue(String e) {
        is("1 + ((" + e + ") = 0)", 1);
    }

    private static String tapeOf(String text, int size) {
        StringBuilder all = new StringBuilder(text);
        while (all.length() < size) {
            all.append(' ');
        }
        return all.toString();
    }

    // A byte (0 .. 255) comes behind THE TAPE
    private static void bytesAre0To255() {
        BoatsCalledIn x = new BoatsCalledIn();
        int[] bad = {-1, 256, 257, LOW, HIGH, -256, 112 + 256, 112 - 256};
        for (int letter : bad) {
            Check.due("feed(" + letter + ")", x.feed(letter), BAD);
        }
        Check.due("the tape is empty", x.count(8), 0);
        Check.due("feed(0)", x.feed(0), 1);
        Check.due("feed(255)", x.feed(255), 2);
        Check.due("feed(256)", x.feed(256), BAD);
        Check.due("two bytes", x.count(8), 2);
    }

    // THE TAPE (160 bytes at most): how many it has; FULL
    private static void theTapeHas160BytesAtMost() {
        BoatsCalledIn x = new BoatsCalledIn();
        String text = tapeOf("price 7;hears 1;comes 1", 159) + ";";
        for (int i = 0; i < 160; i++) {
            Check.due("byte " + i, x.feed(text.charAt(i)), i + 1);
        }
        Check.due("the 161st", x.feed('x'), FULL);
        Check.due("the 161st, a blank", x.feed(' '), FULL);
        Check.due("160 bytes", x.count(8), 160);
        Check.due("a text of 160 bytes", x.text(), 1);
        Check.due("no byte", x.count(8), 0);
        Check.due("there is room again", x.feed('x'), 1);
    }

    // THE TAPE (160 bytes at most): the longest E that has room
    private static void theLongestE() {
        is("1" + "+1".repeat(68), 69);
        is("1" + "*1".repeat(68), 1);
        is("99" + "-1".repeat(67), 32);
        is("1" + " or 0".repeat(27), 1);
        is("0" + " or 0".repeat(27), 0);
        is("7" + " and 1".repeat(22), 1);
    }

    // feed: BAD; FULL
    private static void feedIsBadAheadOfFull() {
        BoatsCalledIn x = new BoatsCalledIn();
        for (int i = 0; i < 160; i++) {
            x.feed('1');
        }
        Check.due("feed(-1) to a full tape", x.feed(-1), BAD);
        Check.due("feed(256) to a full tape", x.feed(256), BAD);
        Check.due("feed(255) to a full tape", x.feed(255), FULL);
        Check.due("feed(0) to a full tape", x.feed(0), FULL);
        Check.due("160 bytes", x.count(8), 160);
    }

    // TOKENS, each as long as can be
    private static void tokensAreAsLongAsCanBe() {
        text("price4;hears 1;comes 1;", 1);
        text("price1;hears1;comes1;", 1);
        text("price 1or 2and 3;hears not1;comes 1;", 1);
        text("pricefar;hears 1;comes 1;", -100);
        text("price far;hearsnot 1;comes 1;", -110);
        good("not1");
        fault("notfar", 0);
        fault("1 orfar", 2);
        fault("farand 1", 0);
        fault("far wind", 4);
        fault("12 34", 3);
        fault("1234 5", 5);
        fault("fa r", 0);
        fault("12far", 2);
        fault("far12", 3);
    }

    // WORDS (a .. z)
    private static void wordsAreOfSmallLetters() {
        fault("FAR", 0);
        fault("Far", 0);
        fault("faR", 0);
        fault("fara", 0);
        fault("farz", 0);
        fault("far_", 3);
        fault("far`", 3);
        fault("far{", 3);
        fault("z", 0);
        fault("a", 0);
        text("Price 1" + TAIL, -100);
        text("price 1;hears 1;comeS 1;", -116);
        text("\u00fe", -100);
    }

    // NUMBERS (as many digits as stand there, 4 at most)
    private static void numbersHaveFourDigitsAtMost() {
        good("0");
        good("0000");
        good("9999");
        fault("00000", 0);
        fault("10000", 0);
        fault("99999", 0);
        fault("1+12345", 2);
        fault("1+123456789012345678901234567890", 2);
        fault("00001", 0);
        is("0042", 42);
        is("9999-9990", 9);
        is("1000-0999", 1);
    }

    // a byte that begins none: by all bytes behind a ONE
    private static void anyByteBehindANumber() {
        for (int letter = 0; letter < 256; letter++) {
            if (letter >= '0' && letter <= '9' || letter == ' ' || letter == '\n') {
                good("1" + (char) letter);
            } else {
                fault("1" + (char) letter, ";+-*<=".indexOf(letter) >= 0 ? 2 : 1);
            }
        }
    }

    // a byte that begins none: by all bytes ahead of a ONE
    private static void anyByteAheadOfANumber() {
        for (int letter = 0; letter < 256; letter++) {
            if (letter >= '0' && letter <= '9' || letter == ' ' || letter == '\n' || letter == '-') {
                good((char) letter + "1");
            } else {
                fault((char) letter + "1", letter == '(' ? 2 : 0);
            }
        }
    }

    // blanks (32, 10) may stand between
    private static void blanksAre32And10() {
        text("price\n1\n;\nhears\n1\n;\ncomes\n1\n;", 1);
        text("price   1   ;   hears   1   ;   comes   1   ;", 1);
        text("price \n \n1;hears(1);comes-1;", 1);
        text("price(far)+wind*late-hid<boat=1" + TAIL, -129);
        text("price(far)+wind*late-hid<boat" + TAIL, 1);
        int[] none = {9, 11, 12, 13, 0, 31, 33, 160, 133, 127};
        for (int letter : none) {
            text("price" + (char) letter + "1" + TAIL, -105);
            text("price 1 " + (char) letter + TAIL, -108);
        }
        text("pri ce 1" + TAIL, -100);
        text("price 1 2" + TAIL, -108);
    }

    // TEXT: price E ; hears E ; comes E ;
    private static void aTextHasThreeClauses() {
        String[] tokens = {"price", "1", ";", "hears", "1", ";", "comes", "1", ";"};
        for (int left = 0; left < tokens.length; left++) {
            StringBuilder without = new StringBuilder();
            StringBuilder twice = new StringBuilder();
            int end = 0;
            int fault = 0;
            for (int i = 0; i < tokens.length; i++) {
                without.append(i == left ? "" : tokens[i] + " ");
                twice.append(tokens[i]).append(' ').append(i == left ? tokens[i] + " " : "");
                end = i == left ? without.length() : end;
                fault = i == left ? twice.length() - tokens[i].length() - 1 : fault;
            }
            text(without.toString(), -100 - end);
            text(twice.toString(), -100 - fault);
        }
        text("hears 1;price 1;comes 1;", -100);
        text("price 1;comes 1;hears 1;", -108);
        text("price 1;hears 1;hears 1;", -116);
        text("price 1;hears 1;price 1;", -116);
        text("price 1;price 1;comes 1;", -108);
    }

    // TEXT: .. comes E ; (then nothing more)
    private static void aTextEndsWithItsLastSign() {
        String whole = "price 1;hears 1;comes 1;";
        text(whole, 1);
        text(whole + " \n ", 1);
        String[] more = {";", "1", "price", "far", "(", "?", "x", "12345", "-"};
        for (String m : more) {
            text(whole + m, -124);
            text(whole + "  " + m, -126);
        }
    }

    // NOT: not NOT, or SUM, perhaps < or = and a SUM
    private static void oneComparisonInANot() {
        good("1<2");
        good("1=2");
        good("1<2 and 2<3");
        good("1<2 or 2=3");
        good("not 1<2");
        good("(1<2)<3");
        good("1=(2=3)");
        fault("1<2<3", 3);
        fault("1<2=3", 3);
        fault("1=2<3", 3);
        fault("1=2=3", 3);
        fault("1<", 2);
        fault("1==2", 2);
        fault("1<=2", 2);
        fault("<2", 0);
    }

    // NOT: not NOT ..; ONE: a NUMBER, a NAME, - ONE, ( E )
    private static void notIsNoPartOfASum() {
        good("not not 1");
        good("1 and not 1");
        good("1 or not 1");
        good("(not 1)+(not 1)");
        fault("1+not 1", 2);
        fault("1*not 1", 2);
        fault("1<not 1", 2);
        fault("1=not 1", 2);
        fault("-not 1", 1);
        fault("1 not 1", 2);
        fault("+1", 0);
        fault("*1", 0);
        fault("1+*1", 2);
        fault("1*+1", 2);
        fault("1++1", 2);
        fault("()", 1);
        fault("(1", 2);
        fault("1)", 1);
        fault("(1))", 3);
        fault("(1;2)", 2);
        fault("1 and", 5);
        fault("1 and and 1", 6);
        fault("1 or", 4);
        fault("1 or or 1", 5);
        fault("(1 or)", 5);
        fault("(1 and)", 6);
        fault("and 1", 0);
        fault("or 1", 0);
        fault("1+", 2);
        fault("1*", 2);
        fault("(1+)", 3);
        fault("(1*)", 3);
        fault("(1<)", 3);
        fault("-", 1);
        fault("(-)", 2);
        fault("not", 3);
        fault("(not)", 4);
    }

    // NAMES are far wind late hid boat minute
    private static void namesAreSix() {
        for (String name : NAMES) {
            good(name);
            good("-" + name + "*(" + name + "+" + name + ")");
            text(name + " 1" + TAIL, -100);
            text("price 1;hears " + name + ";comes " + name + ";", 1);
        }
    }

    // price, hears, comes, or, and, not are KEYS
    private static void keysAreNoNames() {
        for (String key : KEYS) {
            fault(key, key.equals("not") ? 3 : 0);
            fault("1+" + key, 2);
            fault("(" + key + ")", key.equals("not") ? 4 : 1);
        }
    }

    // a WORD that is neither KEY nor NAME
    private static void wordsThatAreNearlyNames() {
        for (String name : NAMES) {
            fault("1+" + name + "s", 2);
            fault("1+" + name + name, 2);
            fault("1+x" + name, 2);
            fault("1+" + name.substring(1), 2);
            fault("1+" + name.substring(0, name.length() - 1), 2);
            for (int i = 0; i < name.length(); i++) {
                fault("1+" + name.substring(0, i) + "q" + name.substring(i + 1), 2);
            }
        }
        fault("(q 1))", 1);
        fault("not q 1", 4);
        fault("-q 1", 1);
        fault("1 q 1", 2);
        fault("1+q", 2);
        String[] keys = {"nor", "o", "orr", "an", "nd", "ands", "no", "ot", "nott", "xor"};
        for (String key : keys) {
            fault("1 " + key + " 1", 2);
        }
    }

    // the text's size, if it ends too early
    private static void aTextThatEndsTooEarly() {
        text("", -100);
        text(" ", -101);
        text("\n\n", -102);
        text("price", -105);
        text("price ", -106);
        text("price 1", -107);
        text("price 1;", -108);
        text("price 1;hears", -113);
        text("price 1;hears 1; ", -117);
        text("price 1;hears 1;comes 1", -123);
        text("price 1;hears 1;comes 1   ", -126);
        text("price (", -107);
        text("price ((1)", -110);
        text("price 1<", -108);
        text("price not", -109);
        text("price -", -107);
        text("price 1 or", -110);
        text("price 1*  ", -110);
    }

    // the place of the first byte of the first TOKEN that can't stand there
    private static void faultsAreTheFirstOnes() {
        text("? price", -100);
        text("  ? price", -102);
        text("hears 12345;", -100);
        text("price 1 1 ? 12345 nonsense", -108);
        text("price nonsense ? 12345", -106);
        text("price 12345 ?", -106);
        text("price ? 12345", -106);
        text("price 1;\n\n  comes 1;", -112);
        text("price    (((((((", -114);
        text("price ) ((((((", -106);
    }

    // places of a tape that is full
    private static void faultsAtTheTapesEnd() {
        String whole = "price 1;hears 1;comes 1";
        text(tapeOf(whole, 160), -260);
        text(tapeOf(whole + ";", 159) + "?", -259);
        text(tapeOf(whole, 159) + "?", -259);
        text(tapeOf("", 160), -260);
        text(tapeOf(whole + ";", 160), 1);
        text(tapeOf("", 136) + whole + ";", 1);
        text(tapeOf(whole + "+", 155) + "9999;", 1);
        text(tapeOf(whole + "+", 155) + "99999", -255);
        text(tapeOf(whole + "+", 156) + "9999", -260);
        text(tapeOf(whole + "+", 157) + "far", -260);
    }

    // a ( .. while 5 of these are open
    private static void parenthesesFiveDeep() {
        good("(((((1)))))");
        fault("((((((1))))))", 5);
        fault("((((( (", 6);
        fault("1+(1+(1+(1+(1+(1+(", 17);
        good("1+(1+(1+(1+(1+(1)))))");
    }

    // .. a not .. while 5 of these are open
    private static void notsFiveDeep() {
        good("not not not not not 1");
        fault("not not not not not not 1", 20);
        fault("not not not not not (1)", 20);
        fault("not not not not not -1", 20);
        good("not not not(not 1)");
        fault("not not not not(not 1)", 16);
    }

    // .. a - ahead of a ONE while 5 of these are open
    private static void minusesFiveDeep() {
        good("-----1");
        fault("------1", 5);
        fault("-----(1)", 5);
        good("----(1)");
        good("1------1");
        fault("1-------1", 7);
    }

    // .. while 5 of these are open: of all three kinds together
    private static void mixedFiveDeep() {
        good("not(-(not 1))");
        fault("not(-(not-1))", 9);
        fault("not(-(not(1)))", 9);
        good("(-(not-1))");
        fault("(-(not--1))", 7);
        fault("(-(not-(1)))", 7);
        good("-(-(-1))");
        fault("-(-(--1))", 5);
        fault("((((-(1)))))", 5);
        fault("((((not-1))))", 7);
        fault("(((((not 1)))))", 5);
        fault("(((((-1)))))", 5);
        good("((((-1))))");
        good("((((not 1))))");
        good("(((not-1)))");
    }

    // .. while 5 of these are open: with all that may wait for its other side at each of six levels
    private static void theMostThatWaits() {
        String level = "0or 1and 8<8+1*";
        for (int last = 0; last < 2; last++) {
            is((level + "(").repeat(5) + level + last + ")))))", last);
        }
        fault((level + "(").repeat(6) + "1", level.length() * 6 + 5);
    }

    // a ( till its ) , not and - till what they belong to ends
    private static void whatIsClosedIsOpenNoMore() {
        good("(((((1)))))+(((((1)))))");
        good("(((((1)+(1))+(1))+(1))+(1))");
        good("(((((1)*(1)))))<(((((1)))))");
        fault("((((((1)*(1))))))", 5);
        good("-----1*-----1+-----1");
        good("-----1<-----1");
        good("not not not not not 1 and not not not not not 1");
        good("not not not not not 1 or(((((1)))))");
        good("not not not not-1<-1");
        fault("not not not not-1<--1", 19);
        fault("not not not not not 1<-1", 22);
        fault("not not not not(1)<((1))", 20);
        good("not not not not(1)<(1)and((1))");
        fault("(((((1+(1))))))", 7);
        fault("(((((1-(1))))))", 7);
        fault("(((((1*(1))))))", 7);
        fault("(((((1<(1))))))", 7);
        fault("(((((1 or(1))))))", 9);
        fault("(((((1 and(1))))))", 10);
        fault("(((((1 or not 1)))))", 10);
        fault("(((((1 and not 1)))))", 11);
        fault("(((((1*-1)))))", 7);
        good("((((1 or(1)))))");
        good("((((1 and not 1))))");
        good("((((1*-1))))");
        good("((((-1+-1*-1))))");
    }

    // a - ahead of a ONE (another one opens nothing)
    private static void aMinusBehindAOneOpensNothing() {
        good("1-1-1-1-1-1-1-1");
        good("(((((1-1-1)))))");
        good("not not not not not 1-1");
        good("-----1-1");
        is("9-1-1-1-1-1-1-1", 2);
        is("((((9-1-1))))", 7);
    }

    // An E is an int (32 bits, wrapping): of sums
    private static void sumsWrap() {
        // 2147483647 = 2 * 1024 * 1024 * 1024 - 1, put as 1073741823 + 1073741824
        String most = "1024*1024*1024-1+1024*1024*1024";
        isTrue("0<" + most);
        isTrue(most + "+1<0");
        isTrue(most + "+1=0-1024*1024*1024-1024*1024*1024");
        isTrue("0<0-1024*1024*1024-1024*1024*1024-1");
        isTrue("0-1024*1024*1024-1024*1024*1024-1=" + most);
    }

    // .. wrapping: of products
    private static void productsWrap() {
        isTrue("1024*1024*1024*4=0");
        isTrue("1024*1024*1024*2<0");
        isTrue("1024*1024*1024*3<0");
        isTrue("1024*1024*1024*5=1024*1024*1024");
        isTrue("4096*4096*256=0");
        isTrue("9999*9999*43=4172*1000+747");
        isTrue("9999*9999*22<0");
        isTrue("0<9999*9999*21");
    }

    // .. wrapping: of - ONE
    private static void theLeastIntDeniedIsItself() {
        isTrue("-(1024*1024*1024*2)<0");
        isTrue("-(1024*1024*1024*2)=1024*1024*1024*2");
        isTrue("-(1024*1024*1024)=1024*1024*1024*3");
        isTrue("0-(1024*1024*1024*2)<0");
    }

    // of or, and, not, <, = 1 or 0
    private static void truthsAre1Or0() {
        is("5 or 7", 1);
        is("0 or 7", 1);
        is("7 or 0", 1);
        is("0 or 0", 0);
        is("5 and 7", 1);
        is("6 and 1", 1);
        is("2 and 1", 1);
        is("5 and 0", 0);
        is("0 and 5", 0);
        is("not 5", 0);
        is("not 0", 1);
        is("not not 5", 1);
        is("3<4", 1);
        is("4<4", 0);
        is("5<4", 0);
        is("4=4", 1);
        is("4=5", 0);
        is("(3<4)+(4=4)+(5 or 7)+(5 and 7)+(not 0)", 5);
    }

    // what is not 0 is true
    private static void whatIsNot0IsTrue() {
        is("-1 or 0", 1);
        is("0 or -1", 1);
        is("-1 and -2", 1);
        is("not -1", 0);
        is("256 and 256", 1);
        is("1024*1024*1024*2 or 0", 1);
        is("1024*1024*64 and 1024*1024*64", 1);
        is("not 1024*1024*1024*2", 0);
        is("1024*1024*1024*4 or 0", 0);
        is("2 and -2", 1);
        is("1-1 or 0", 0);
    }

    // <: of ints with a sign, and not of what lies between them
    private static void comparisonsAreOfSignedInts() {
        is("-1<0", 1);
        is("0<-1", 0);
        is("-2<-1", 1);
        is("-1<-1", 0);
        is("1024*1024*1024*2<0", 1);
        is("1024*1024*1024*2<1024*1024*1024*2-1", 1);
        is("1024*1024*1024*2-1<1024*1024*1024*2", 0);
        is("1024*1024*1024=1024*1024*1024*5", 1);
    }

    // E: AND { or AND } .. TERM: ONE { * ONE }
    private static void bindingAndOrder() {
        is("1 or 0 and 0", 1);
        is("0 and 0 or 1", 1);
        is("(1 or 0) and 0", 0);
        is("not 0 and 0", 0);
        is("not 0 or 1", 1);
        is("not 1=0", 1);
        is("not 2<1", 1);
        is("2+3*4", 14);
        is("2*3+4", 10);
        is("9-3-2", 4);
        is("9-(3-2)", 8);
        is("9-3+2", 8);
        is("-2+9", 7);
        is("-2*-3", 6);
        is("9--3", 12);
        is("2+1<2+2", 1);
        is("2*2=3+1", 1);
        is("1+(1<2)*3", 4);
    }

    // far: how FAR its CELL is from the STAGE
    private static void farIs0To12() {
        BoatsCalledIn x = new BoatsCalledIn();
        Check.rule(x, "far", "1", "1");
        Check.boat(x, 0, 0, 0, 0, 5);
        x.time(6);
        int[] cells = {0, 1, 7, 8, 40, 47, 27};
        int[] far = {0, 1, 7, 1, 5, 12, 6};
        for (int i = 0; i < cells.length; i++) {
            x.set(0, 0, cells[i]);
            Check.due("far in cell " + cells[i], x.told(0, 10), far[i]);
        }
        Check.boat(x, 0, 0, 30, 0, 5);
        Check.due("far of another boat", x.told(1, 10), 9);
    }

    // wind: WIND
    private static void windIs0To9() {
        BoatsCalledIn x = new BoatsCalledIn();
        Check.rule(x, "wind", "1", "1");
        Check.boat(x, 0, 0, 0, 0, 5);
        x.time(6);
        for (int wind = 0; wind < 10; wind++) {
            x.set(5, 0, wind);
            Check.due("wind " + wind, x.told(0, 10), wind);
        }
    }

    // late: LATE: THE MINUTE less DUE (it may be below 0)
    private static void lateMayBeBelow0() {
        BoatsCalledIn x = new BoatsCalledIn();
        Check.rule(x, "1", "1", "late=0-1239");
        Check.boat(x, 0, 0, 0, 999, 240);
        Check.due("1239 minutes ahead of due", x.told(0, 9), 1);
        Check.rule(x, "1", "1", "late=0-5");
        x.set(1, 0, 0);
        x.set(2, 0, 5);
        Check.due("5 minutes ahead", x.told(0, 9), 1);
        Check.rule(x, "late", "1", "late=0");
        x.time(5);
        Check.due("just due", x.told(0, 9), 1);
        x.time(1);
        Check.due("due no more", x.told(0, 9), 0);
        Check.due("a minute late", x.told(0, 10), 1);
        x.time(14);
        Check.due("15 minutes late", x.told(0, 10), 15);
    }

    // hid: 1, if its CELL is HIDDEN, else 0
    private static void hidIs1Or0() {
        BoatsCalledIn x = new BoatsCalledIn();
        Check.rule(x, "hid*50+7", "1", "1");
        Check.boat(x, 0, 0, 0, 0, 5);
        x.time(6);
        int[] cells = {26, 27, 28, 31, 32, 36, 20, 0};
        int[] hid = {0, 0, 1, 1, 0, 0, 0, 0};
        for (int i = 0; i < cells.length; i++) {
            x.set(0, 0, cells[i]);
            Check.due("hid in cell " + cells[i], x.told(0, 10), 50 * hid[i] + 7);
        }
        Check.boat(x, 0, 0, 30, 0, 5);
        Check.due("hid of another boat", x.told(1, 10), 57);
        Check.due("hid of the first one yet", x.told(0, 10), 7);
    }

    // boat: which one it is
    private static void boatIsWhichOneItIs() {
        BoatsCalledIn x = new BoatsCalledIn();
        Check.rule(x, "boat+1", "1", "boat=0 or boat=6");
        for (int boat = 0; boat < 7; boat++) {
            Check.boat(x, 0, 9, 0, 0, 5);
        }
        x.time(6);
        for (int boat = 0; boat < 7; boat++) {
            Check.due("boat " + boat, x.told(boat, 10), boat + 1);
        }
        Check.due("the others wouldn't come", x.nobody(), 62);
    }

    // minute: THE MINUTE
    private static void minuteIsTheMinute() {
        BoatsCalledIn x = new BoatsCalledIn();
        Check.rule(x, "1", "1", "minute=0 or minute=9999");
        Check.boat(x, 0, 0, 0, 999, 240);
        Check.due("minute 0", x.told(0, 9), 1);
        x.time(1);
        Check.due("minute 1", x.told(0, 9), 0);
        Check.pass(x, 9997);
        Check.due("minute 9998", x.told(0, 9), 0);
        x.time(240);
        Check.due("minute 9999", x.told(0, 9), 1);
    }

    // price: for a quarter of an hour (0 .. 99, else the bound)
    private static void priceIs0To99() {
        String[] prices = {"0", "1", "98", "99", "100", "9999", "-1", "-9999", "1024*1024*1024*2", "1024*1024*1024*2-1",
            "1024*1024*1024*4+5", "0-1024*1024*1024"};
        int[] due = {0, 1, 98, 99, 99, 99, 0, 0, 0, 99, 5, 0};
        for (int i = 0; i < prices.length; i++) {
            is(prices[i], due[i]);
        }
    }

    // hears: whether it may hear a call (not 0; besides HEARS)
    private static void hearsIsBesidesHears() {
        String[] hears = {"0", "1", "-1", "256", "1024*1024*1024*2", "1024*1024*1024*4"};
        int[] may = {0, 1, 1, 1, 1, 0};
        for (int i = 0; i < hears.length; i++) {
            BoatsCalledIn x = new BoatsCalledIn();
            Check.rule(x, "1", hears[i], "1");
            Check.boat(x, 0, 0, 47, 0, 5);
            Check.boat(x, 4, 0, 5, 0, 5);
            Check.due("it hears by " + hears[i], x.told(0, 9), may[i]);
            Check.due("too far away to hear by " + hears[i], x.told(1, 9), 0);
        }
    }

    // comes: whether it comes, if it hears (not 0)
    private static void comesIsAskedOfWhoHears() {
        String[] comes = {"0", "1", "-1", "256", "1024*1024*1024*2", "1024*1024*1024*4"};
        int[] will = {0, 1, 1, 1, 1, 0};
        for (int i = 0; i < comes.length; i++) {
            BoatsCalledIn x = new BoatsCalledIn();
            Check.rule(x, "1", "boat", comes[i]);
            Check.boat(x, 0, 0, 0, 0, 5);
            Check.boat(x, 0, 0, 0, 0, 5);
            Check.due("it doesn't hear, by " + comes[i], x.told(0, 9), 0);
            Check.due("it comes by " + comes[i], x.told(1, 9), will[i]);
        }
    }

    // There are 6 TEXTS at most, TEXT 0 with them
    private static void textsAreSixAtMost() {
        BoatsCalledIn x = new BoatsCalledIn();
        Check.due("texts at first", x.count(7), 1);
        for (int text = 1; text < 6; text++) {
            Check.due("a fault takes no room", Check.text(x, "price"), -105);
            Check.due("text " + text, Check.text(x, "price " + text + TAIL), text);
            Check.due("texts", x.count(7), text + 1);
        }
        Check.due("one more", Check.text(x, "price 6" + TAIL), FULL);
        Check.due("six texts", x.count(7), 6);
        Check.boat(x, 0, 0, 0, 0, 5);
        x.time(6);
        for (int text = 1; text < 6; text++) {
            Check.due("force(" + text + ")", x.force(text), text - 1);
            Check.due("each text is its own", x.told(0, 10), text);
        }
    }

    // FULL (ahead of all): no TEXT more has room (THE TAPE stays)
    private static void fullIsAheadOfAll() {
        BoatsCalledIn x = new BoatsCalledIn();
        for (int text = 1; text < 6; text++) {
            Check.text(x, "price 1" + TAIL);
        }
        Check.due("with nothing", x.text(), FULL);
        Check.due("with a fault", Check.text(x, "price ?"), FULL);
        Check.due("the tape stays", x.count(8), 7);
        Check.due("asked again", x.text(), FULL);
        Check.due("the tape stays again", x.count(8), 7);
        Check.due("it goes on from there", x.feed(';'), 8);
        Check.due("the rule stays", x.count(9), 0);
    }

    // THE TAPE, which is empty then (by a FAULT, too)
    private static void theTapeIsEmptyThen() {
        BoatsCalledIn x = new BoatsCalledIn();
        Check.due("a fault", Check.text(x, "price 1;hears 1;comes ?"), -122);
        Check.due("empty", x.count(8), 0);
        Check.due("nothing of it is left", x.text(), -100);
        Check.due("a text", Check.text(x, "price 1" + TAIL), 1);
        Check.due("empty again", x.count(8), 0);
        Check.boat(x, 0, 0, 0, 0, 5);
        Check.boat(x, 0, 0, 0, 0, 5);
        x.time(6);
        for (int i = 0; i < 4; i++) {
            Check.due("a fault again", Check.text(x, "price 9*9+8;hears 0 or(0;"), -100 - 24);
        }
        Check.due("a text behind faults", Check.text(x, "price 3;hears 1;comes boat;"), 2);
        x.force(2);
        Check.due("its price", x.told(0, 10), 3);
        Check.due("who comes", x.nobody(), 1);
        Check.due("nothing of it is left again", x.text(), -100);
        Check.due("the first byte", x.feed('p'), 1);
    }

    // its number; -100 less the place of its FAULT
    private static void faultsAreToldBelow100() {
        text("", -100);
        text("?", -100);
        text("price?", -105);
        text(tapeOf("price", 159) + "?", -259);
        text(tapeOf("price 1;hears 1;comes 1", 160), -260);
        text("price 1" + TAIL, 1);
    }

    // TEXT 0, at first THE RULE
    private static void textZeroIsTheRuleAtFirst() {
        BoatsCalledIn x = new BoatsCalledIn();
        Check.due("the rule", x.count(9), 0);
        Check.due("force(0)", x.force(0), 0);
        Check.due("texts", x.count(7), 1);
        Check.due("the tape is empty", x.count(8), 0);
    }

    // price 4 ; hears not hid ; comes 0 - 5 < late ;
    private static void textZeroByItsWords() {
        BoatsCalledIn x = new BoatsCalledIn();
        Check.boat(x, 0, 0, 27, 20, 30);
        Check.boat(x, 0, 0, 28, 20, 30);
        Check.boat(x, 0, 0, 36, 20, 30);
        x.time(45);
        Check.due("5 minutes ahead of due", x.nobody(), 7);
        x.time(1);
        Check.due("4 minutes ahead, one hidden", x.nobody(), 2);
        x.time(4);
        Check.due("due", x.told(0, 10), 0);
        x.time(1);
        Check.due("a minute behind", x.told(0, 10), 4);
        x.time(15);
        Check.due("16 minutes behind", x.told(0, 10), 8);
        x.set(4, 0, 26);
        Check.due("two hidden ones", x.nobody(), 3);
    }

    // A TEXT is THE RULE: which was
    private static void forceAnswersWhichWas() {
        BoatsCalledIn x = new BoatsCalledIn();
        Check.text(x, "price 1" + TAIL);
        Check.text(x, "price 2" + TAIL);
        int[] texts = {2, 1, 0, 1, 1, 2, 0};
        int was = 0;
        for (int text : texts) {
            Check.due("force(" + text + ")", x.force(text), was);
            Check.due("the rule", x.count(9), text);
            was = text;
        }
    }

    // force: BAD
    private static void forceRefuses() {
        BoatsCalledIn x = new BoatsCalledIn();
        Check.boat(x, 0, 0, 0, 0, 5);
        Check.text(x, "price 1" + TAIL);
        x.force(1);
        String before = Check.seen(x);
        int[] bad = {-1, 2, 5, 6, LOW, HIGH};
        for (int text : bad) {
            Check.due("force(" + text + ")", x.force(text), BAD);
        }
        Check.unchanged("refused texts", before, x);
        Check.text(x, "price ?");
        Check.due("a fault is no text", x.force(2), BAD);
        Check.due("its own number", x.force(1), 1);
    }
}
