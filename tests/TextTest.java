/** Promises 1 to 7: a new object, the text with its faults, what was told. */
public final class TextTest {
    private static final String LAW = "l1 1 1;";
    private static final String BUSH = "b0 0 0 0 0 0;";
    private static final String PICKER = "p0 1 0 0;";

    public static void main(String[] args) {
        newObject();
        feeding();
        wellFormedTexts();
        misplaced();
        wrongNumbers();
        tooMany();
        firstFaultWins();
        faultChangesNothing();
        newLaneForgets();
        earlierTextsAreGone();
        longestTexts();
        toldOf();
        bushOf();
        pickerOf();
        Due.end("TextTest");
    }

    private static void newObject() {
        BerryLane x = new BerryLane();
        int[] due = {0, 0, 0, 0, 0, 999, 0, 0, 0, 0, 0, 0};
        for (int what = 0; what < due.length; what++) {
            Due.is("new: told(" + what + ")", x.told(what), due[what]);
        }
        Due.is("new: fault()", x.fault(), BerryLane.NONE);
        Due.is("new: bush(0, 0)", x.bush(0, 0), BerryLane.UNKNOWN);
        Due.is("new: picker(0, 0)", x.picker(0, 0), BerryLane.UNKNOWN);
        Due.is("new: seed(5)", x.seed(5), 0);
        Due.is("new: goBack(0)", x.goBack(0), BerryLane.NOT);
        Due.is("new: goBack(1)", x.goBack(1), BerryLane.NOT);
    }

    private static void feeding() {
        BerryLane x = new BerryLane();
        Due.is("feed(-1)", x.feed(-1), BerryLane.OUTSIDE);
        Due.is("feed(256)", x.feed(256), BerryLane.OUTSIDE);
        Due.is("feed(least)", x.feed(Integer.MIN_VALUE), BerryLane.OUTSIDE);
        Due.is("feed(0)", x.feed(0), 1);
        Due.is("feed(255)", x.feed(255), 2);
        for (int i = 3; i <= 230; i++) {
            Due.is("feed to " + i, x.feed(' '), i);
        }
        Due.is("feed a 231st", x.feed(' '), BerryLane.FULL);
        Due.is("feed a 231st that is no letter", x.feed(256), BerryLane.OUTSIDE);
        Due.is("letters", x.told(6), 230);
        Due.is("lane() of no words", x.lane(), -11);
        Due.is("fault()", x.fault(), 0);
        Due.is("letters behind lane()", x.told(6), 0);
        Due.is("feed behind lane()", x.feed('l'), 1);
    }

    private static void wellFormedTexts() {
        Due.right("", 0);
        Due.right("   ", 0);
        Due.right(LAW, 0);
        Due.right("l20 20 20;", 0);
        Due.right("l001 020 01;", 0);
        Due.right("  l  1   1 1  ;  ", 0);
        Due.right("l 1 1 1;c 999 ;b 99 1 3 300 300 300 ; p 99 20 9 1 ;", 1);
        Due.right(LAW + "c1;" + PICKER + BUSH + PICKER + BUSH, 2);
        Due.right(LAW + BUSH + BUSH + BUSH + BUSH + BUSH + BUSH + PICKER + PICKER + PICKER + PICKER + "c5;", 6);
    }

    private static void misplaced() {
        Due.wrong("b0 0 0 0 0 0;", 1, 0);
        Due.wrong("c5;", 1, 0);
        Due.wrong("p0 1 0 0;", 1, 0);
        Due.wrong("  c5;", 1, 2);
        Due.wrong("x", 1, 0);
        Due.wrong("1", 1, 0);
        Due.wrong(";", 1, 0);
        Due.wrong("L1 1 1;", 1, 0);
        Due.wrong("l", 1, 1);
        Due.wrong("l  ", 1, 3);
        Due.wrong("l1", 1, 2);
        Due.wrong("l1 1", 1, 4);
        Due.wrong("l1 1 1", 1, 6);
        Due.wrong("l1 1 1 ", 1, 7);
        Due.wrong("l1 1;", 1, 4);
        Due.wrong("l;", 1, 1);
        Due.wrong("l1 1 1 1;", 1, 7);
        Due.wrong("l1 1 1l", 1, 6);
        Due.wrong("l1 1 1;;", 1, 7);
        Due.wrong("l1 1 1;5", 1, 7);
        Due.wrong("l1 1 1;x", 1, 7);
        Due.wrong("l1 1 1;\t", 1, 7);
        Due.wrong("l1,1 1;", 1, 2);
        Due.wrong("l1 -1 1;", 1, 3);
        Due.wrong(LAW + "c;", 1, 8);
        Due.wrong(LAW + "c1", 1, 9);
        Due.wrong(LAW + "c1 1;", 1, 10);
        Due.wrong(LAW + "b0 0 0 0 0;", 1, 17);
        Due.wrong(LAW + "b0 0 0 0 0 0", 1, 19);
        Due.wrong(LAW + "p0 1 0;", 1, 13);
        Due.wrong(LAW + "p0 1 0 0p", 1, 15);
        Due.wrong("l1 1 1" + (char) 255, 1, 6);
        Due.wrong("l" + (char) 0, 1, 1);
    }

    private static void wrongNumbers() {
        Due.wrong("l0 1 1;", 2, 1);
        Due.wrong("l21 1 1;", 2, 1);
        Due.wrong("l1 0 1;", 2, 3);
        Due.wrong("l1 21 1;", 2, 3);
        Due.wrong("l1 1 0;", 2, 5);
        Due.wrong("l1 1 21;", 2, 5);
        Due.wrong("l0001 1 1;", 2, 1);
        Due.wrong("l1 1 0000000001;", 2, 5);
        Due.wrong("l1 1 4294967297;", 2, 5);
        Due.wrong(LAW + "b100 0 0 0 0 0;", 2, 8);
        Due.wrong(LAW + "b0 2 0 0 0 0;", 2, 10);
        Due.wrong(LAW + "b0 0 4 0 0 0;", 2, 12);
        Due.wrong(LAW + "b0 0 0 301 0 0;", 2, 14);
        Due.wrong(LAW + "b0 0 0 0 301 0;", 2, 16);
        Due.wrong(LAW + "b0 0 0 0 0 301;", 2, 18);
        Due.wrong(LAW + "p100 1 0 0;", 2, 8);
        Due.wrong(LAW + "p0 0 0 0;", 2, 10);
        Due.wrong(LAW + "p0 21 0 0;", 2, 10);
        Due.wrong(LAW + "p0 1 10 0;", 2, 12);
        Due.wrong(LAW + "p0 1 0 2;", 2, 14);
        Due.wrong(LAW + "c0;", 2, 8);
        Due.wrong(LAW + "c1000;", 2, 8);
    }

    private static void tooMany() {
        Due.wrong(LAW + "l1 1 1;", 3, 7);
        Due.wrong(LAW + " l", 3, 8);
        Due.wrong(LAW + "c1;c1;", 3, 10);
        Due.wrong(LAW + "c1; c", 3, 11);
        String bushes = BUSH + BUSH + BUSH + BUSH + BUSH + BUSH;
        Due.wrong(LAW + bushes + "b", 3, 7 + 6 * BUSH.length());
        String pickers = PICKER + PICKER + PICKER + PICKER;
        Due.wrong(LAW + pickers + "p0 1 0 0;", 3, 7 + 4 * PICKER.length());
    }

    private static void firstFaultWins() {
        Due.wrong("l1 1 1 1000;", 1, 7);
        Due.wrong("l21x", 2, 1);
        Due.wrong("l1000x", 2, 1);
        Due.wrong(LAW + "c0;c1;", 2, 8);
        Due.wrong(LAW + "b0 0 9 x", 2, 12);
        Due.wrong(LAW + LAW + "x", 3, 7);
    }

    private static void faultChangesNothing() {
        BerryLane x = Due.lane("l4 5 2;b10 0 0 20 30 6;p10 8 2 0;c40;");
        x.pick(0, 0, 1);
        x.day(1, false);
        x.go(0, 0);
        x.pick(0, 0, 1);
        x.left(0, 0, 1);
        x.can(0, 0, 1, 1);
        x.write(0, 0, 1);
        x.seed(77);
        x.keep(1);
        int ripe = x.told(8);
        Due.feed(x, "l1 1 1;b1 1 1 1 1 1;p9 9 9 1;c1;x");
        Due.is("lane() with a fault", x.lane(), -11);
        Due.is("fault()", x.fault(), 32);
        Due.is("M", x.told(0), 4);
        Due.is("bushes", x.told(3), 1);
        Due.is("can holds", x.told(5), 40);
        Due.is("day", x.told(7), 1);
        Due.is("ripe", x.told(8), ripe);
        Due.is("left", x.told(9), 1);
        Due.is("cans", x.told(10), 1);
        Due.is("book", x.told(11), 1);
        Due.is("clock", x.picker(0, 7), 1);
        Due.is("image", x.goBack(1), 1);
        Due.is("seed", x.seed(0), 77);
        Due.is("fault() stays", x.fault(), 32);
        x.lane();
        Due.is("fault() of the next lane()", x.fault(), BerryLane.NONE);
    }

    private static void newLaneForgets() {
        BerryLane x = Due.lane("l4 5 2;b10 0 0 20 30 6;p10 8 2 0;c40;");
        x.pick(0, 0, 2);
        x.day(3, false);
        x.left(0, 0, 1);
        x.can(0, 0, 1, 1);
        x.write(0, 0, 1);
        x.seed(77);
        x.keep(0);
        x.keep(1);
        Due.feed(x, "l1 2 3;b9 1 1 1 2 3;b9 0 0 0 5 0;p9 9 9 1;");
        Due.is("a second lane()", x.lane(), 2);
        int[] due = {1, 2, 3, 2, 1, 999, 0, 0, 7, 0, 0, 0};
        for (int what = 0; what < due.length; what++) {
            Due.is("second lane: told(" + what + ")", x.told(what), due[what]);
        }
        Due.is("can", x.picker(0, 5), 0);
        Due.is("eaten", x.picker(0, 6), 0);
        Due.is("clock", x.picker(0, 7), 0);
        Due.is("side", x.picker(0, 1), 0);
        Due.is("image 0", x.goBack(0), BerryLane.NOT);
        Due.is("image 1", x.goBack(1), BerryLane.NOT);
        Due.is("seed", x.seed(77), 77);
        Due.is("lane() of nothing", x.lane(), 0);
        Due.is("no law", x.told(0), 0);
        Due.is("no pickers", x.told(4), 0);
        Due.is("can holds", x.told(5), 999);
        Due.is("day without a law", x.day(1, true), BerryLane.NOT);
    }

    /** A text ends where it ends, whatever a longer one had there before it. */
    private static void earlierTextsAreGone() {
        String[] earlier = {"l1 1 1;", "l1 1 123;", "l1 1 1      ;", "l1 1 1;;;;;;"};
        for (String before : earlier) {
            BerryLane x = new BerryLane();
            Due.feed(x, before);
            x.lane();
            Due.feed(x, "l1 1 1");
            Due.is("behind '" + before + "': lane()", x.lane(), -11);
            Due.is("behind '" + before + "': fault()", x.fault(), 6);
            Due.feed(x, before);
            x.lane();
            Due.feed(x, "l1");
            Due.is("behind '" + before + "': lane()", x.lane(), -11);
            Due.is("behind '" + before + "': fault()", x.fault(), 2);
            Due.feed(x, before);
            x.lane();
            Due.feed(x, "l2 2 2;");
            Due.is("behind '" + before + "': lane()", x.lane(), 0);
            Due.is("behind '" + before + "': M", x.told(0), 2);
        }
        BerryLane x = Due.lane("l1 2 3;");
        x.lane();
        Due.is("no law: M", x.told(0), 0);
        Due.is("no law: R", x.told(1), 0);
        Due.is("no law: S", x.told(2), 0);
    }

    private static void longestTexts() {
        Due.right(" ".repeat(223) + LAW, 0);
        Due.right(LAW + " ".repeat(223), 0);
        Due.wrong(" ".repeat(224) + "l1 1 1", 1, 230);
        Due.wrong("l1 1 1" + " ".repeat(224), 1, 230);
        Due.wrong(" ".repeat(229) + "l", 1, 230);
        Due.wrong("l1 1 " + "1".repeat(225), 2, 5);
    }

    private static void toldOf() {
        BerryLane x = Due.lane("l4 5 2;b10 0 0 20 30 6;b25 1 1 9 40 0;p10 8 2 0;c40;");
        x.feed('x');
        x.day(2, false);
        x.left(0, 0, 0);
        x.left(0, 0, 0);
        x.left(0, 0, 0);
        x.can(0, 0, 1, 0);
        x.can(0, 0, 1, 0);
        x.write(0, 0, 0);
        // ripe: 30 + 5 - 6 = 29, + 4 - 5 = 28; 40 + 3 - 8 = 35, + 2 - 7 = 30
        int[] due = {4, 5, 2, 2, 1, 40, 1, 2, 58, 3, 2, 1};
        for (int what = 0; what < due.length; what++) {
            Due.is("told(" + what + ")", x.told(what), due[what]);
        }
        Due.is("told(-1)", x.told(-1), BerryLane.OUTSIDE);
        Due.is("told(12)", x.told(12), BerryLane.OUTSIDE);
    }

    private static void bushOf() {
        BerryLane x = Due.lane("l4 5 2;b10 0 0 20 30 6;b25 1 3 9 40 7;");
        int[] first = {10, 0, 0, 20, 30, 6};
        int[] second = {25, 1, 3, 9, 40, 7};
        for (int what = 0; what < 6; what++) {
            Due.is("bush(0, " + what + ")", x.bush(0, what), first[what]);
            Due.is("bush(1, " + what + ")", x.bush(1, what), second[what]);
        }
        Due.is("bush(2, 0)", x.bush(2, 0), BerryLane.UNKNOWN);
        Due.is("bush(-1, 0)", x.bush(-1, 0), BerryLane.UNKNOWN);
        Due.is("bush(2, 9)", x.bush(2, 9), BerryLane.UNKNOWN);
        Due.is("bush(0, 6)", x.bush(0, 6), BerryLane.OUTSIDE);
        Due.is("bush(0, -1)", x.bush(0, -1), BerryLane.OUTSIDE);
    }

    private static void pickerOf() {
        BerryLane x = Due.lane("l4 5 2;b10 1 3 20 30 6;p17 8 2 1;p0 1 0 0;");
        x.go(0, 0);
        x.pick(0, 0, 1);
        int[] first = {10, 1, 8, 2, 1, 4, 2, 3};
        int[] second = {0, 0, 1, 0, 0, 0, 0, 0};
        for (int what = 0; what < 8; what++) {
            Due.is("picker(0, " + what + ")", x.picker(0, what), first[what]);
            Due.is("picker(1, " + what + ")", x.picker(1, what), second[what]);
        }
        Due.is("picker(2, 0)", x.picker(2, 0), BerryLane.UNKNOWN);
        Due.is("picker(-1, 0)", x.picker(-1, 0), BerryLane.UNKNOWN);
        Due.is("picker(2, 9)", x.picker(2, 9), BerryLane.UNKNOWN);
        Due.is("picker(0, 8)", x.picker(0, 8), BerryLane.OUTSIDE);
        Due.is("picker(0, -1)", x.picker(0, -1), BerryLane.OUTSIDE);
    }
}
