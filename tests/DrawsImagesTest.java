/** Promises 30 to 32: the seed and the images. */
public final class DrawsImagesTest {
    private static final String TEXT = "l4 5 2;b10 0 0 20 30 6;b25 1 1 9 40 0;p10 8 2 0;p0 12 0 1;c40;";

    public static void main(String[] args) {
        seeds();
        images();
        imagesOfNoLane();
        notInTheImage();
        refused();
        Due.end("DrawsImagesTest");
    }

    private static void seeds() {
        BerryLane x = new BerryLane();
        Due.is("seed(7)", x.seed(7), 0);
        Due.is("seed(-1)", x.seed(-1), BerryLane.OUTSIDE);
        Due.is("seed(least)", x.seed(Integer.MIN_VALUE), BerryLane.OUTSIDE);
        Due.is("seed(most)", x.seed(2147483647), 7);
        Due.is("seed(0)", x.seed(0), 2147483647);
        BerryLane y = Due.lane("l1 1 1;b0 0 0 1 1 1;");
        y.drift(1);
        Due.is("0 becomes 12345", y.seed(0), 12345);
    }

    private static int[] all(BerryLane x) {
        int[] all = new int[2 * 6 + 2 * 8 + 2];
        int n = 0;
        for (int b = 0; b < 2; b++) {
            for (int what = 0; what < 6; what++) {
                all[n++] = x.bush(b, what);
            }
        }
        for (int p = 0; p < 2; p++) {
            for (int what = 0; what < 8; what++) {
                all[n++] = x.picker(p, what);
            }
        }
        all[n++] = x.told(7);
        int seed = x.seed(0);
        x.seed(seed);
        all[n++] = seed;
        return all;
    }

    private static void same(String name, int[] got, int[] want) {
        for (int i = 0; i < want.length; i++) {
            Due.is(name + ", number " + i, got[i], want[i]);
        }
    }

    private static void images() {
        BerryLane x = Due.lane(TEXT);
        int[] first = all(x);
        Due.is("keep(0)", x.keep(0), 1);
        x.go(0, 1);
        x.pick(0, 1, 3);
        x.stick(1, false);
        x.stick(0, true);
        x.day(2, true);
        x.go(1, 0);
        x.pick(1, 0, 2);
        x.seed(99);
        int[] second = all(x);
        Due.is("keep(1)", x.keep(1), 1);
        x.drift(5);
        Due.is("goBack(0)", x.goBack(0), 1);
        same("image 0", all(x), first);
        Due.is("goBack(1)", x.goBack(1), 1);
        same("image 1", all(x), second);
        x.pick(1, 0, 1);
        x.pour(0);
        int[] third = all(x);
        x.keep(0);
        x.day(1, false);
        Due.is("goBack(0), kept anew", x.goBack(0), 1);
        same("image 0, kept anew", all(x), third);
        Due.is("goBack(0) once more", x.goBack(0), 1);
        same("image 0, once more", all(x), third);
        int once = x.drift(9);
        x.goBack(0);
        Due.is("the same draws again", x.drift(9), once);
    }

    private static void imagesOfNoLane() {
        BerryLane x = new BerryLane();
        x.seed(5);
        Due.is("keep(0)", x.keep(0), 1);
        x.seed(6);
        Due.is("goBack(0)", x.goBack(0), 1);
        Due.is("the seed", x.seed(0), 5);
        Due.feed(x, TEXT);
        x.lane();
        Due.is("gone with the lane", x.goBack(0), BerryLane.NOT);
        x.keep(0);
        x.lane();
        Due.is("gone with an empty text", x.goBack(0), BerryLane.NOT);
    }

    private static void notInTheImage() {
        BerryLane x = Due.lane(TEXT);
        x.keep(0);
        x.left(0, 0, 1);
        x.can(0, 0, 1, 1);
        x.write(0, 0, 1);
        x.feed('l');
        x.goBack(0);
        Due.is("what is left stays", x.told(9), 1);
        Due.is("cans stay", x.told(10), 1);
        Due.is("the book stays", x.told(11), 1);
        Due.is("the text stays", x.told(6), 1);
    }

    private static void refused() {
        BerryLane x = Due.lane(TEXT);
        for (int i : new int[] {-1, 2, Integer.MIN_VALUE, Integer.MAX_VALUE}) {
            Due.is("keep(" + i + ")", x.keep(i), BerryLane.UNKNOWN);
            Due.is("goBack(" + i + ")", x.goBack(i), BerryLane.UNKNOWN);
        }
        Due.is("goBack(0)", x.goBack(0), BerryLane.NOT);
        x.keep(0);
        Due.is("goBack(1)", x.goBack(1), BerryLane.NOT);
    }
}
