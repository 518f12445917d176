import java.util.List;

/** The text and promises 1 to 7: each sentence that names an edge, at the edge and on both its sides. */
public final class EdgesOfTextTest {
    private static final int NONE = BerryLane.NONE;
    private static final int OUTSIDE = BerryLane.OUTSIDE;
    private static final int FULL = BerryLane.FULL;
    private static final String LAW = "l1 1 1;";
    private static final String BUSH = "b0 0 0 0 0 0;";
    private static final String PICKER = "p0 1 0 0;";
    private static final String WHOLE = "l4 5 2;b10 0 0 20 30 6;p10 8 2 0;c40;";

    public static void main(String[] args) {
        newObject();
        lettersAreNumbers();
        lettersAreCounted();
        textsOfTheGreatestLength();
        boundsOfTheLaw();
        theLawComesFirst();
        theLawComesOnce();
        boundsOfBushes();
        sixBushes();
        boundsOfPickers();
        fourPickers();
        boundsOfACan();
        aCanUntold();
        aCanOnce();
        figuresOfNumbers();
        wordsAreOneLetter();
        blanksAnywhere();
        blanksAreThirtyTwo();
        noBlanksWithinNumbers();
        numbersSideBySide();
        theFirstFault();
        theEndAtTheLength();
        theLeastFault();
        lettersThatAreNoWords();
        lettersWithinAClause();
        numbersAtTheirFirst();
        anEmptyText();
        theTextIsEmptyThen();
        aLaneBeginsAnew();
        withAFaultAllIsAsItWas();
        faultOfTheLatest();
        toldIsTwelve();
        toldCounts();
        bushIsSix();
        pickerIsEight();
        eatenIsNoCan();
        Due.end("EdgesOfTextTest");
    }

    private static String blanks(int n) {
        return " ".repeat(n);
    }

    private static void newObject() {
        Due.sentence("No law of berries, no BUSHES.");
        BerryLane x = new BerryLane();
        Due.is("M", x.told(0), 0);
        Due.is("BUSHES", x.told(3), 0);
        Due.is("bush(0, 0)", x.bush(0, 0), BerryLane.UNKNOWN);
        Due.is("day(1, false)", x.day(1, false), BerryLane.NOT);
        Due.is("a CAN holds 999 untold", x.told(5), 999);
        Due.sentence("THE SEED (0 at first");
        Due.is("seed(1)", x.seed(1), 0);
    }

    private static void lettersAreNumbers() {
        Due.sentence("One letter (a number 0 .. 255) comes behind THE TEXT: how many it has.");
        int[] outside = {Integer.MIN_VALUE, -256, -2, -1, 256, 257, 256 + 'l', 65536 + 'l', Integer.MAX_VALUE};
        int[] within = {0, 1, 254, 255};
        BerryLane x = new BerryLane();
        for (int letter : outside) {
            Due.is("feed(" + letter + ")", x.feed(letter), OUTSIDE);
            Due.is("letters behind feed(" + letter + ")", x.told(6), 0);
        }
        for (int i = 0; i < within.length; i++) {
            Due.is("feed(" + within[i] + ")", x.feed(within[i]), i + 1);
            Due.is("letters behind feed(" + within[i] + ")", x.told(6), i + 1);
        }
    }

    private static void lettersAreCounted() {
        Due.sentence("OUTSIDE, FULL (230).");
        BerryLane x = new BerryLane();
        for (int i = 1; i <= 230; i++) {
            Due.is("letter " + i, x.feed('l'), i);
        }
        Due.is("letter 231", x.feed('l'), FULL);
        Due.is("letter 232", x.feed('l'), FULL);
        Due.is("letter 231, 256", x.feed(256), OUTSIDE);
        Due.is("letter 231, -1", x.feed(-1), OUTSIDE);
        Due.is("letters", x.told(6), 230);
        x.lane();
        Due.is("room again behind lane()", x.feed('l'), 1);
    }

    private static void textsOfTheGreatestLength() {
        Due.sentence("THE LANE is told in a text (230 letters at most)");
        for (int length = 229; length <= 230; length++) {
            Due.right(blanks(length - 7) + LAW, 0);
            Due.right(LAW + blanks(length - 7), 0);
            Due.right(LAW + blanks(length - 20) + BUSH, 1);
            Due.wrong(LAW + blanks(length - 8) + "x", 1, length - 1);
            Due.wrong(LAW + blanks(length - 8) + "c", 1, length);
        }
        Due.wrong(blanks(231 - 7) + LAW, 1, 230);
        Due.right(LAW + blanks(223) + "x", 0);
    }

    /** A clause with number i of it being this, the others as given: taken, and told as that. */
    private static void taken(String word, int[] numbers, int i, int value) {
        int[] row = numbers.clone();
        row[i] = value;
        BerryLane x = Due.right(before(word) + clause(word, row), word.equals("b") ? 1 : 0);
        int[] whats = {0, 2, 3, 4};
        int got = word.equals("l") ? x.told(i) : word.equals("b") ? x.bush(0, i)
                : word.equals("p") ? x.picker(0, whats[i]) : x.told(5);
        Due.is("number " + i + " of '" + clause(word, row) + "'", got, value);
    }

    private static void refused(String word, int[] numbers, int i, int value) {
        int[] row = numbers.clone();
        row[i] = value;
        String text = before(word) + clause(word, row);
        int place = before(word).length() + 1;
        for (int k = 0; k < i; k++) {
            place += String.valueOf(row[k]).length() + 1;
        }
        Due.wrong(text, 2, place);
    }

    private static String before(String word) {
        return word.equals("l") ? "" : LAW;
    }

    private static String clause(String word, int[] numbers) {
        StringBuilder text = new StringBuilder(word);
        for (int i = 0; i < numbers.length; i++) {
            text.append(i == 0 ? "" : " ").append(numbers[i]);
        }
        return text.append(';').toString();
    }

    /** Number i of a clause: both bounds and one within of each are taken, one beyond of each is not. */
    private static void bounds(String word, int[] numbers, int i, int low, int high) {
        taken(word, numbers, i, low);
        taken(word, numbers, i, low + 1);
        taken(word, numbers, i, high - 1);
        taken(word, numbers, i, high);
        refused(word, numbers, i, high + 1);
        if (low > 0) {
            refused(word, numbers, i, low - 1);
        }
    }

    private static void boundsOfTheLaw() {
        Due.sentence("of what is RED 1 of M ripens a DAY, of what is RIPE 1 of R softens, of what is SOFT 1 of S falls, 1 .. 20 each");
        int[] some = {3, 4, 5};
        for (int i = 0; i < 3; i++) {
            bounds("l", some, i, 1, 20);
        }
    }

    private static void theLawComesFirst() {
        Due.sentence("first, once) .. another word first than 'l'");
        Due.wrong(BUSH + LAW, 1, 0);
        Due.wrong(PICKER + LAW, 1, 0);
        Due.wrong("c1;" + LAW, 1, 0);
        Due.wrong("  " + "c1;" + LAW, 1, 2);
        Due.right(LAW + "c1;" + PICKER + BUSH, 1);
        Due.right(LAW + BUSH + "c1;" + PICKER, 1);
    }

    private static void theLawComesOnce() {
        Due.sentence("3 'l', 'c' again");
        Due.right(LAW, 0);
        Due.wrong(LAW + LAW, 3, 7);
        Due.wrong(LAW + "l", 3, 7);
        Due.wrong(LAW + BUSH + " l", 3, 7 + BUSH.length() + 1);
    }

    private static void boundsOfBushes() {
        Due.sentence("at yard X, 0 .. 99, on side D 0, 1; of KIND K 0 .. 3; A RED, B RIPE, C SOFT berries, 0 .. 300 each");
        int[] some = {10, 1, 2, 30, 40, 50};
        int[] high = {99, 1, 3, 300, 300, 300};
        for (int i = 0; i < 6; i++) {
            bounds("b", some, i, 0, high[i]);
        }
        Due.wrong(LAW + "b-1 0 0 0 0 0;", 1, 8);
    }

    private static void sixBushes() {
        Due.sentence("6 BUSHES at most .. a seventh 'b'");
        Due.right(LAW + BUSH.repeat(5), 5);
        BerryLane x = Due.right(LAW + BUSH.repeat(5) + "b7 1 3 4 5 6;", 6);
        Due.is("yard of the sixth", x.bush(5, 0), 7);
        int place = 7 + 6 * BUSH.length();
        Due.wrong(LAW + BUSH.repeat(7), 3, place);
        Due.wrong(LAW + BUSH.repeat(6) + "b", 3, place);
        Due.wrong(LAW + BUSH.repeat(6) + "b100", 3, place);
        Due.wrong(LAW + BUSH.repeat(6) + "  bx", 3, place + 2);
    }

    private static void boundsOfPickers() {
        Due.sentence("at yard X, on side 0, at first; a handful of Q, 1 .. 20; eats E of it, 0 .. 9; reaches high: H 1, or not: 0");
        int[] some = {10, 5, 4, 1};
        bounds("p", some, 0, 0, 99);
        bounds("p", some, 1, 1, 20);
        bounds("p", some, 2, 0, 9);
        bounds("p", some, 3, 0, 1);
        BerryLane x = Due.right(LAW + "b9 1 0 0 0 0;p9 1 0 0;", 1);
        Due.is("side at first", x.picker(0, 1), 0);
        Due.is("he is not at the bush on side 1", x.pick(0, 0, 1), BerryLane.NOT);
    }

    private static void fourPickers() {
        Due.sentence("4 PICKERS at most .. a fifth 'p' (at it)");
        Due.is("three", Due.right(LAW + PICKER.repeat(3), 0).told(4), 3);
        BerryLane x = Due.right(LAW + PICKER.repeat(3) + "p7 20 9 1;", 0);
        Due.is("four", x.told(4), 4);
        Due.is("yard of the fourth", x.picker(3, 0), 7);
        int place = 7 + 4 * PICKER.length();
        Due.wrong(LAW + PICKER.repeat(5), 3, place);
        Due.wrong(LAW + PICKER.repeat(4) + "p", 3, place);
        Due.wrong(LAW + PICKER.repeat(4) + " p0 0", 3, place + 1);
    }

    private static void boundsOfACan() {
        Due.sentence("a CAN holds V, 1 .. 999");
        bounds("c", new int[] {5}, 0, 1, 999);
    }

    private static void aCanUntold() {
        Due.sentence("999 untold");
        Due.is("told 998", Due.right(LAW + "c998;", 0).told(5), 998);
        Due.is("untold", Due.right(LAW, 0).told(5), 999);
        BerryLane x = Due.right(LAW + "c1;", 0);
        Due.feed(x, LAW);
        x.lane();
        Due.is("untold by the second text", x.told(5), 999);
    }

    private static void aCanOnce() {
        Due.sentence("3 'l', 'c' again");
        Due.wrong(LAW + "c1;c", 3, 10);
        Due.wrong(LAW + "c999;c999;", 3, 12);
        Due.wrong(LAW + "c999;" + BUSH + "c1;", 3, 12 + BUSH.length());
        Due.wrong(LAW + "c1;l", 3, 10);
    }

    private static void figuresOfNumbers() {
        Due.sentence("NUMBERS have one to three figures .. 2 a NUMBER of four figures or more");
        Due.wrong("l 1 1;", 1, 5);
        Due.is("one figure", Due.right("l7 1 1;", 0).told(0), 7);
        Due.is("two figures", Due.right("l07 1 1;", 0).told(0), 7);
        Due.is("three figures", Due.right("l007 1 1;", 0).told(0), 7);
        Due.wrong("l0007 1 1;", 2, 1);
        Due.wrong("l00007 1 1;", 2, 1);
        Due.is("three figures", Due.right(LAW + "c100;", 0).told(5), 100);
        Due.wrong(LAW + "c1000;", 2, 8);
        Due.wrong(LAW + "c0100;", 2, 8);
        Due.wrong(LAW + "c0000;", 2, 8);
        Due.wrong(LAW + "c000;", 2, 8);
        // what would be 1 or 5 if it were cut off, or counted round
        Due.wrong("l4294967297 1 1;", 2, 1);
        Due.wrong("l18446744073709551617 1 1;", 2, 1);
        Due.wrong("l" + "0".repeat(200) + "5 1 1;", 2, 1);
    }

    private static void wordsAreOneLetter() {
        Due.sentence("a word is one letter");
        Due.wrong("ll1 1 1;", 1, 1);
        Due.wrong("law1 1 1;", 1, 1);
        Due.wrong("L1 1 1;", 1, 0);
        Due.wrong(LAW + "bb0 0 0 0 0 0;", 1, 8);
        Due.wrong(LAW + "B0 0 0 0 0 0;", 1, 7);
        Due.wrong(LAW + "can5;", 1, 8);
    }

    private static void blanksAnywhere() {
        Due.sentence("blanks (32) may stand anywhere but within NUMBERS");
        for (int n = 0; n <= 3; n++) {
            String s = blanks(n);
            String need = blanks(Math.max(1, n));
            String text = s + "l" + s + "4" + need + "5" + need + "2" + s + ";" + s
                    + "b" + s + "10" + need + "1" + need + "2" + need + "30" + need + "40" + need + "50" + s + ";" + s
                    + "p" + s + "9" + need + "8" + need + "7" + need + "1" + s + ";" + s + "c" + s + "60" + s + ";" + s;
            BerryLane x = Due.right(text, 1);
            Due.is("S of '" + text + "'", x.told(2), 2);
            Due.is("SOFT of '" + text + "'", x.bush(0, 5), 50);
            Due.is("H of '" + text + "'", x.picker(0, 4), 1);
            Due.is("V of '" + text + "'", x.told(5), 60);
        }
    }

    private static void blanksAreThirtyTwo() {
        Due.sentence("blanks (32)");
        for (int letter : new int[] {0, 9, 10, 13, 31, 33, 95, 160, 255}) {
            char c = (char) letter;
            Due.wrong(c + LAW, 1, 0);
            Due.wrong("l" + c + "1 1 1;", 1, 1);
            Due.wrong("l1" + c + "1 1;", 1, 2);
            Due.wrong("l1 1 1" + c + ";", 1, 6);
            Due.wrong(LAW + c, 1, 7);
        }
        Due.right(LAW + (char) 32, 0);
    }

    private static void noBlanksWithinNumbers() {
        Due.sentence("anywhere but within NUMBERS");
        Due.right("l12 1 1;", 0);
        Due.wrong("l1 2 1 1;", 1, 7);
        Due.wrong("l1 0 1 1;", 2, 3);
        Due.wrong(LAW + "c1 0;", 1, 10);
        Due.wrong(LAW + "c99 9;", 1, 11);
    }

    private static void numbersSideBySide() {
        Due.sentence("two NUMBERS side by side need one");
        Due.right("l1 1 1;", 0);
        Due.right("l1  1  1;", 0);
        Due.wrong("l11 1;", 1, 5);
        Due.wrong("l1 11;", 1, 5);
        Due.wrong("l111;", 2, 1);
        Due.wrong("l1111;", 2, 1);
        Due.wrong(LAW + "p0 10 0;", 1, 14);
    }

    private static void theFirstFault() {
        Due.sentence("FAULTS, at the first letter that has one");
        Due.wrong("l21 21 1;", 2, 1);
        Due.wrong("l20 21 21;", 2, 4);
        Due.wrong("l21 x", 2, 1);
        Due.wrong("l1 x 21;", 1, 3);
        Due.wrong(LAW + "l0x", 3, 7);
        Due.wrong(LAW + "xl", 1, 7);
        Due.wrong(LAW + "c0;c1;", 2, 8);
        Due.wrong(LAW + "c1;c0;", 3, 10);
        Due.wrong(LAW + "c1000", 2, 8);
        Due.wrong(LAW + "c1;b100 x", 2, 11);
    }

    private static void theEndAtTheLength() {
        Due.sentence("(the end at the text's length)");
        String whole = "l4 5 2;b10 1 2 30 40 50;p9 8 7 1;c60;";
        int bushes = 0;
        for (int length = 0; length <= whole.length(); length++) {
            String text = whole.substring(0, length);
            boolean ends = length == 0 || text.endsWith(";");
            bushes = length == 24 ? 1 : bushes;
            if (ends) {
                Due.right(text, bushes);
                Due.right(text + "  ", bushes);
            } else {
                Due.wrong(text, 1, length);
                Due.wrong(text + " ", 1, length + 1);
                Due.wrong(text + "   ", 1, length + 3);
            }
        }
    }

    private static void theLeastFault() {
        Due.sentence("of these the least");
        Due.wrong("l1 1 1 1000;", 1, 7);
        Due.wrong("l1 1 1 0000", 1, 7);
        Due.wrong("1000", 1, 0);
        Due.wrong(LAW + "1000", 1, 7);
        Due.wrong("l1 1 1l", 1, 6);
        Due.wrong("l1 1 l", 1, 5);
        Due.wrong("ll", 1, 1);
        Due.wrong(LAW + "c1c", 1, 9);
        Due.wrong(LAW + "c1;b0 0 0 0 0 0c", 1, 22);
        Due.wrong(LAW + BUSH.repeat(5) + "b0 0 0 0 0 0b", 1, 7 + 5 * 13 + 12);
        Due.wrong(LAW + PICKER.repeat(3) + "p0 1 0 0p", 1, 7 + 3 * 9 + 8);
    }

    private static void lettersThatAreNoWords() {
        Due.sentence("1 it cannot stand there (a letter that is no word, another word first than 'l')");
        for (int letter = 0; letter < 256; letter++) {
            char c = (char) letter;
            if (c == ' ') {
                continue;
            }
            Due.wrong("" + c, 1, c == 'l' ? 1 : 0);
            boolean word = c == 'b' || c == 'p' || c == 'c';
            Due.wrong(LAW + c, c == 'l' ? 3 : 1, word ? 8 : 7);
        }
    }

    private static void lettersWithinAClause() {
        Due.sentence("1 it cannot stand there");
        for (int letter = 0; letter < 256; letter++) {
            char c = (char) letter;
            boolean figure = c >= '0' && c <= '9';
            if (c == ' ') {
                continue;
            }
            if (!figure) {
                Due.wrong("l" + c + "1 1 1;", 1, 1);
                Due.wrong("l1 " + c + "1 1;", 1, 3);
                Due.wrong("l1 1 " + c, 1, 5);
            }
            if (c == ';') {
                Due.right("l1 1 1 " + c, 0);
            } else {
                Due.wrong("l1 1 1 " + c, 1, 7);
            }
        }
        // the signs beside the figures
        Due.wrong("l/ 1 1;", 1, 1);
        Due.wrong("l: 1 1;", 1, 1);
        Due.right("l9 9 9;", 0);
        Due.right("l10 10 10;", 0);
    }

    private static void numbersAtTheirFirst() {
        Due.sentence("or out of its bounds (at its first)");
        Due.wrong("l1 1   21;", 2, 7);
        Due.wrong("l1 1 021;", 2, 5);
        Due.wrong("l1 1 000;", 2, 5);
        Due.wrong("l1 1 21", 2, 5);
        Due.wrong("l1 1 1234", 2, 5);
        Due.wrong(LAW + "b0 0 0 0 0 301", 2, 18);
    }

    private static void anEmptyText() {
        Due.sentence("An empty text: no law of berries.");
        BerryLane x = Due.right("", 0);
        BerryLane y = Due.lane(WHOLE);
        Due.is("lane() behind a whole one", y.lane(), 0);
        for (BerryLane none : new BerryLane[] {x, y}) {
            for (int what = 0; what < 5; what++) {
                Due.is("told(" + what + ")", none.told(what), 0);
            }
            Due.is("what a CAN holds", none.told(5), 999);
            Due.is("day(1, false)", none.day(1, false), BerryLane.NOT);
        }
        BerryLane law = Due.right(LAW, 0);
        Due.is("a law and no more: M", law.told(0), 1);
        Due.is("a law and no more: day(1, false)", law.day(1, false), 0);
        Due.is("blanks and no more: M", Due.right("  ", 0).told(0), 0);
    }

    private static void theTextIsEmptyThen() {
        Due.sentence("THE TEXT (it is empty then, with a FAULT, too)");
        BerryLane x = new BerryLane();
        Due.feed(x, LAW);
        Due.is("letters", x.told(6), 7);
        x.lane();
        Due.is("letters behind a lane", x.told(6), 0);
        Due.is("the next letter", x.feed('x'), 1);
        Due.is("a fault", x.lane(), -11);
        Due.is("letters behind a fault", x.told(6), 0);
        Due.is("the next letter", x.feed('l'), 1);
        Due.feed(x, "2 2 2;");
        Due.is("nothing of the text with the fault is there", x.lane(), 0);
        Due.is("M", x.told(0), 2);
    }

    /** An object on which all has happened that there is. */
    private static BerryLane used() {
        BerryLane x = Due.lane(WHOLE);
        x.pick(0, 0, 2);
        x.stick(0, true);
        x.keep(0);
        x.day(3, false);
        x.keep(1);
        x.go(0, 0);
        x.pick(0, 0, 1);
        x.left(0, 0, 1);
        x.can(0, 0, 1, 1);
        x.write(0, 0, 1);
        x.seed(77);
        return x;
    }

    private static void aLaneBeginsAnew() {
        Due.sentence("(DAY 0, CANS empty, CLOCKS 0; nothing LEFT, no CANS told, no BOOK; IMAGES are gone; THE SEED stays)");
        BerryLane x = used();
        Due.feed(x, WHOLE);
        Due.is("lane()", x.lane(), 1);
        BerryLane anew = Due.lane(WHOLE);
        anew.seed(77);
        Look.same("the same lane, told again", Look.into(x), Look.into(anew));
        BerryLane bare = used();
        bare.lane();
        BerryLane none = new BerryLane();
        none.seed(77);
        Look.same("no lane, behind one", Look.into(bare), Look.into(none));
    }

    private static void withAFaultAllIsAsItWas() {
        Due.sentence("-10 less the number of its FAULT (all else is as it was)");
        String[] texts = {"l9 9 9;b1 1 1 1 1 1;p1 1 1 1;c1;x", "l9 9 9;b1 1 1 1 1 1;p1 1 1 1;c0;", "l9 9 9;p1 1 1 1;l"};
        int[] places = {32, 30, 16};
        List<Integer> before = Look.into(used());
        for (int fault = 1; fault <= 3; fault++) {
            BerryLane x = used();
            Due.feed(x, texts[fault - 1]);
            Due.is("lane()", x.lane(), -10 - fault);
            Due.is("fault()", x.fault(), places[fault - 1]);
            // the place of the fault is the one thing that is not as it was
            List<Integer> behind = Look.into(x);
            for (int i = 0; i < behind.size(); i++) {
                if (behind.get(i) != places[fault - 1] || before.get(i) != NONE) {
                    Due.is("number " + i + " behind fault " + fault, behind.get(i), before.get(i));
                }
            }
        }
    }

    private static void faultOfTheLatest() {
        Due.sentence("The letter of the FAULT of the latest lane(); NONE.");
        BerryLane x = new BerryLane();
        Due.is("ahead of all", x.fault(), NONE);
        x.feed('x');
        Due.is("ahead of lane()", x.fault(), NONE);
        x.lane();
        Due.is("at the first letter", x.fault(), 0);
        Due.feed(x, LAW);
        Due.is("while the next one is fed", x.fault(), 0);
        x.feed('x');
        x.lane();
        Due.is("at the eighth", x.fault(), 7);
        Due.is("asked again", x.fault(), 7);
        Due.feed(x, LAW);
        x.lane();
        Due.is("behind a whole one", x.fault(), NONE);
        x.feed('l');
        x.lane();
        Due.is("at the end", x.fault(), 1);
        x.lane();
        Due.is("behind an empty one", x.fault(), NONE);
    }

    private static void toldIsTwelve() {
        Due.sentence("11 entries of THE BOOK. OUTSIDE.");
        BerryLane x = used();
        int[] outside = {Integer.MIN_VALUE, -2, -1, 12, 13, Integer.MAX_VALUE};
        for (int what : outside) {
            Due.is("told(" + what + ")", x.told(what), OUTSIDE);
            Due.is("told(" + what + ") of a new object", new BerryLane().told(what), OUTSIDE);
        }
        Due.is("told(0)", x.told(0), 4);
        Due.is("told(11)", x.told(11), 1);
    }

    private static void toldCounts() {
        Due.sentence("0 M (0 without a law), 1 R, 2 S, 3 BUSHES, 4 PICKERS, 5 what a CAN holds, 6 letters of THE TEXT, 7 THE DAY, 8 RIPE in all");
        BerryLane x = Due.lane("l1 2 3;" + "b0 0 0 300 300 300;".repeat(6) + PICKER.repeat(4) + "c7;");
        Due.feed(x, blanks(230));
        int[] due = {1, 2, 3, 6, 4, 7, 230, 0, 1800, 0, 0, 0};
        for (int what = 0; what < due.length; what++) {
            Due.is("told(" + what + ")", x.told(what), due[what]);
        }
        x.day(99, false);
        x.day(99, false);
        Due.is("THE DAY", x.told(7), 198);
        Due.is("RIPE in all, of none", Due.lane(LAW + BUSH).told(8), 0);
        Due.is("only what is RIPE", Due.lane(LAW + "b0 0 0 5 1 7;").told(8), 1);
    }

    private static void bushIsSix() {
        Due.sentence("Of a BUSH: what = 0 yard, 1 side, 2 KIND, 3 RED, 4 RIPE, 5 SOFT. UNKNOWN, OUTSIDE.");
        BerryLane x = Due.lane(LAW + "b1 0 2 3 4 5;b6 1 3 9 10 11;");
        Due.is("bush(0, 0)", x.bush(0, 0), 1);
        Due.is("bush(1, 5)", x.bush(1, 5), 11);
        for (int what : new int[] {Integer.MIN_VALUE, -1, 6, Integer.MAX_VALUE}) {
            Due.is("bush(1, " + what + ")", x.bush(1, what), OUTSIDE);
        }
        for (int b : new int[] {Integer.MIN_VALUE, -1, 2, 5, 6, Integer.MAX_VALUE}) {
            Due.is("bush(" + b + ", 0)", x.bush(b, 0), BerryLane.UNKNOWN);
            Due.is("bush(" + b + ", 6)", x.bush(b, 6), BerryLane.UNKNOWN);
        }
        BerryLane all = Due.lane(LAW + BUSH.repeat(6));
        Due.is("bush(5, 0)", all.bush(5, 0), 0);
        Due.is("bush(6, 0)", all.bush(6, 0), BerryLane.UNKNOWN);
    }

    private static void pickerIsEight() {
        Due.sentence("Of a PICKER: what = 0 yard, 1 side, 2 Q, 3 E, 4 whether he reaches high (1, 0)");
        BerryLane x = Due.lane(LAW + "p1 2 3 1;p4 5 6 0;");
        int[][] due = {{1, 0, 2, 3, 1, 0, 0, 0}, {4, 0, 5, 6, 0, 0, 0, 0}};
        for (int p = 0; p < 2; p++) {
            for (int what = 0; what < 8; what++) {
                Due.is("picker(" + p + ", " + what + ")", x.picker(p, what), due[p][what]);
            }
        }
        for (int what : new int[] {Integer.MIN_VALUE, -1, 8, Integer.MAX_VALUE}) {
            Due.is("picker(1, " + what + ")", x.picker(1, what), OUTSIDE);
        }
        for (int p : new int[] {Integer.MIN_VALUE, -1, 2, 3, 4, Integer.MAX_VALUE}) {
            Due.is("picker(" + p + ", 0)", x.picker(p, 0), BerryLane.UNKNOWN);
            Due.is("picker(" + p + ", 8)", x.picker(p, 8), BerryLane.UNKNOWN);
        }
        BerryLane all = Due.lane(LAW + PICKER.repeat(4));
        Due.is("picker(3, 0)", all.picker(3, 0), 0);
        Due.is("picker(4, 0)", all.picker(4, 0), BerryLane.UNKNOWN);
    }

    /** A lane has 3600 berries at most, so nobody can eat 999999: here is all that one can eat. */
    private static void eatenIsNoCan() {
        Due.sentence("6 what he has eaten (999999 at most)");
        BerryLane x = Due.lane("l1 20 1;" + "b0 0 0 300 300 0;".repeat(6) + "p0 9 9 0;c1;");
        int gave = 0;
        for (int days = 0; days < 2; days++) {
            for (int b = 0; b < 6; b++) {
                gave += x.pick(0, b, 60) + x.pick(0, b, 60);
            }
            Due.is("eaten", x.picker(0, 6), gave);
            x.day(1, false);
        }
        Due.is("all that there was", gave, 3600);
        Due.is("in the can", x.picker(0, 5), 0);
    }
}
