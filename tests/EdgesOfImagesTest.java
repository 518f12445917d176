import java.math.BigInteger;
import java.util.List;

/** Draws and images, promises 30 to 32: each sentence that names an edge, at it and on both its sides. */
public final class EdgesOfImagesTest {
    private static final int UNKNOWN = BerryLane.UNKNOWN;
    private static final int OUTSIDE = BerryLane.OUTSIDE;
    private static final int NOT = BerryLane.NOT;
    private static final String TEXT = "l4 5 2;b10 0 0 20 30 6;b25 1 1 9 40 0;p10 8 2 0;p0 12 0 1;c9;";

    public static void main(String[] args) {
        seedBounds();
        seedComesRound();
        seedOutlastsALane();
        imagesAreTwo();
        imagesKept();
        imagesAreGoneWithALane();
        imagesKeepEach();
        imagesKeepNoMore();
        imagesAreApart();
        imagesOfANewObject();
        Due.end("EdgesOfImagesTest");
    }

    private static void seedBounds() {
        Due.sentence("THE SEED becomes v (0 .. 2147483647): what it was. OUTSIDE.");
        BerryLane x = new BerryLane();
        Due.is("seed(2147483647)", x.seed(2147483647), 0);
        Due.is("seed(2147483646)", x.seed(2147483646), 2147483647);
        for (int v : new int[] {-1, -2, Integer.MIN_VALUE, Integer.MIN_VALUE + 1}) {
            Due.is("seed(" + v + ")", x.seed(v), OUTSIDE);
        }
        Due.is("seed(1)", x.seed(1), 2147483646);
        Due.is("seed(0)", x.seed(0), 1);
        Due.is("seed(0)", x.seed(0), 0);
    }

    /** One day without pickers makes one draw. */
    private static int next(int seed) {
        BerryLane x = Due.lane("l1 1 1;b0 0 0 1 1 1;");
        x.seed(seed);
        x.drift(1);
        return x.seed(0);
    }

    private static void seedComesRound() {
        Due.sentence("it becomes it times 1103515245 and 12345, left over by 2 to the 31");
        Due.is("of 0", next(0), 12345);
        Due.is("of 1", next(1), 1103527590);
        // 2 times is 2207030490 and 12345: more than 2147483647
        Due.is("of 2", next(2), 59559187);
        Due.is("of 2147483647", next(2147483647), 1043980748);
        Due.is("of 2147483646", next(2147483646), 2087949151);
        for (int seed : new int[] {3, 65535, 65536, 1000000000, 1073741823, 1073741824, 2147418112}) {
            BigInteger due = BigInteger.valueOf(seed).multiply(BigInteger.valueOf(1103515245))
                    .add(BigInteger.valueOf(12345)).mod(BigInteger.ONE.shiftLeft(31));
            Due.is("of " + seed, next(seed), due.intValueExact());
        }
        Due.sentence("the DRAW of n is it / 65536, left over by n");
        // the lanes of one bush: a DRAW of 1 is 0; then of 6, then of 4
        BerryLane x = Due.lane("l20 20 20;b0 0 0 0 19 0;p0 1 0 0;");
        Due.is("drift(1)", x.drift(1) >= 0 ? 1 : 0, 1);
        // 12345 (0), 1406932606 (21468: 0 of 6), 654583775 (9988: 0 of 4)
        Due.is("no handful", x.picker(0, 5), 0);
        Due.is("a rainy day", x.told(8), 15);
        Due.is("the third seed", x.seed(0), 654583775);
    }

    private static void seedOutlastsALane() {
        Due.sentence("IMAGES are gone; THE SEED stays");
        BerryLane x = Due.lane(TEXT);
        x.seed(8);
        Due.feed(x, TEXT);
        x.lane();
        Due.is("behind a lane", x.seed(9), 8);
        x.lane();
        Due.is("behind an empty one", x.seed(10), 9);
        x.feed('x');
        x.lane();
        Due.is("behind a fault", x.seed(11), 10);
    }

    private static void imagesAreTwo() {
        Due.sentence("IMAGES 0, 1 .. UNKNOWN (a BUSH, PICKER, IMAGE that there is not");
        BerryLane x = Due.lane(TEXT);
        for (int i : new int[] {Integer.MIN_VALUE, -2, -1, 2, 3, Integer.MAX_VALUE}) {
            Due.is("keep(" + i + ")", x.keep(i), UNKNOWN);
            Due.is("goBack(" + i + ")", x.goBack(i), UNKNOWN);
        }
        for (int i = 0; i < 2; i++) {
            Due.is("keep(" + i + ")", x.keep(i), 1);
            Due.is("goBack(" + i + ")", x.goBack(i), 1);
        }
    }

    private static void imagesKept() {
        Due.sentence("What is so becomes IMAGE i: 1. UNKNOWN, NOT: it was not kept.");
        BerryLane x = Due.lane(TEXT);
        Due.is("goBack(0)", x.goBack(0), NOT);
        Due.is("goBack(1)", x.goBack(1), NOT);
        Due.is("keep(1)", x.keep(1), 1);
        Due.is("goBack(0), 1 being kept", x.goBack(0), NOT);
        Due.is("goBack(1)", x.goBack(1), 1);
        Due.is("goBack(1) again", x.goBack(1), 1);
        Due.is("keep(2)", x.keep(2), UNKNOWN);
        Due.is("goBack(0) then", x.goBack(0), NOT);
        BerryLane y = Due.lane(TEXT);
        y.keep(0);
        Due.is("goBack(1), 0 being kept", y.goBack(1), NOT);
        Due.is("goBack(0)", y.goBack(0), 1);
    }

    private static void imagesAreGoneWithALane() {
        Due.sentence("IMAGES are gone");
        for (String text : new String[] {TEXT, "", "l1 1 1;"}) {
            BerryLane x = Due.lane(TEXT);
            x.keep(0);
            x.keep(1);
            Due.feed(x, text);
            x.lane();
            Due.is("goBack(0) behind '" + text + "'", x.goBack(0), NOT);
            Due.is("goBack(1) behind '" + text + "'", x.goBack(1), NOT);
            Due.is("keep(0)", x.keep(0), 1);
            Due.is("goBack(0), kept anew", x.goBack(0), 1);
            Due.is("goBack(1), not kept anew", x.goBack(1), NOT);
        }
        BerryLane x = Due.lane(TEXT);
        x.keep(0);
        x.feed('x');
        x.lane();
        Due.is("they stay with a FAULT", x.goBack(0), 1);
    }

    /** Every single call that changes what an image keeps is undone by it. */
    private static void imagesKeepEach() {
        Due.sentence("IMAGES 0, 1 keep BUSHES, PICKERS (where, CANS, what was eaten, CLOCKS, who reaches high), THE DAY, THE SEED.");
        for (int i = 0; i < 2; i++) {
            for (int call = 0; call < 8; call++) {
                BerryLane x = Due.lane(TEXT);
                x.pick(0, 0, 2);
                x.seed(5);
                List<Integer> before = Look.at(x);
                x.keep(i);
                switch (call) {
                    case 0 -> x.go(0, 1);
                    case 1 -> x.pick(0, 0, 1);
                    case 2 -> x.stick(0, true);
                    case 3 -> x.stick(1, false);
                    case 4 -> x.pour(0);
                    case 5 -> x.day(1, false);
                    case 6 -> x.drift(3);
                    default -> x.seed(6);
                }
                Due.is("it is otherwise, call " + call, Look.at(x).equals(before) ? 1 : 0, 0);
                Due.is("goBack(" + i + ")", x.goBack(i), 1);
                Look.same("image " + i + ", call " + call, Look.at(x), before);
            }
        }
    }

    private static void imagesKeepNoMore() {
        Due.sentence("IMAGES 0, 1 keep .. (and nothing else: what is LEFT, CANS told, THE BOOK, THE TEXT, the FAULT stay)");
        BerryLane x = Due.lane(TEXT);
        x.left(0, 0, 25);
        x.can(0, 0, 1, 4);
        x.write(0, 0, 6);
        x.keep(0);
        x.left(0, 1, 1);
        x.can(0, 0, 2, 7);
        x.write(0, 0, 5);
        x.feed('x');
        x.lane();
        x.feed('l');
        x.goBack(0);
        Due.is("told(6)", x.told(6), 1);
        Due.is("told(9)", x.told(9), 2);
        Due.is("told(10)", x.told(10), 2);
        Due.is("told(11)", x.told(11), 2);
        Due.is("fault()", x.fault(), 0);
        x.tear();
        x.goBack(0);
        Due.is("torn is torn", x.tear(), 0);
    }

    private static void imagesAreApart() {
        Due.sentence("IMAGE i becomes what is so: 1.");
        BerryLane x = Due.lane(TEXT);
        List<Integer> first = Look.at(x);
        x.keep(0);
        x.day(1, true);
        List<Integer> second = Look.at(x);
        x.keep(1);
        x.day(5, false);
        x.goBack(0);
        Look.same("image 0", Look.at(x), first);
        x.drift(2);
        x.goBack(1);
        Look.same("image 1", Look.at(x), second);
        x.drift(2);
        x.goBack(0);
        Look.same("image 0 is not changed by what was done", Look.at(x), first);
        x.day(1, true);
        x.keep(0);
        x.goBack(1);
        x.goBack(0);
        Look.same("image 0, kept anew", Look.at(x), second);
    }

    private static void imagesOfANewObject() {
        Due.sentence("NOT: it was not kept");
        BerryLane x = new BerryLane();
        Due.is("goBack(0)", x.goBack(0), NOT);
        Due.is("goBack(1)", x.goBack(1), NOT);
        Due.is("keep(0)", x.keep(0), 1);
        x.seed(4);
        Due.is("goBack(0)", x.goBack(0), 1);
        Due.is("THE SEED", x.seed(0), 0);
        Due.is("no law", x.day(1, false), NOT);
    }
}
