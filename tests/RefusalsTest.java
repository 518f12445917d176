import java.util.List;
import java.util.function.Supplier;

/** Of several refusals the first in their order; and what is refused changes nothing: each refusal of each call. */
public final class RefusalsTest {
    private static final int NONE = BerryLane.NONE;
    private static final int UNKNOWN = BerryLane.UNKNOWN;
    private static final int OUTSIDE = BerryLane.OUTSIDE;
    private static final int NOT = BerryLane.NOT;
    private static final int FULL = BerryLane.FULL;

    private interface Call {
        int on(BerryLane x);
    }

    private static Supplier<BerryLane> state;
    private static List<Integer> before;

    public static void main(String[] args) {
        Due.sentence("REFUSALS, of several the first in this order: UNKNOWN, OUTSIDE, NOT, FULL .. What is refused changes nothing.");
        theirNumbers();
        from(RefusalsTest::inUse);
        theLane();
        whatIsDone();
        tried();
        whatWasSeen();
        drawsImages();
        from(RefusalsTest::allFull);
        full();
        from(BerryLane::new);
        withoutALane();
        from(RefusalsTest::withoutBushes);
        bare();
        Due.end("RefusalsTest");
    }

    /** Two bushes and two pickers, an image, a text begun, something of all that can be told; the latest text had a fault. */
    private static BerryLane inUse() {
        BerryLane x = Due.lane("l4 5 2;b10 0 0 20 30 6;b25 1 1 9 40 0;p10 8 2 0;p0 12 0 1;c9;");
        x.seed(5);
        x.pick(0, 0, 1);
        x.keep(0);
        x.day(1, true);
        x.pick(0, 0, 1);
        x.go(1, 1);
        x.left(0, 1, 9);
        x.left(1, 1, 20);
        x.can(0, 0, 1, 3);
        x.write(0, 0, 5);
        x.write(1, 1, 5);
        Due.feed(x, "l1 1 1;x");
        x.lane();
        Due.feed(x, "l2 3 4;b1 1 1 1 1 1;");
        return x;
    }

    private static BerryLane allFull() {
        BerryLane x = inUse();
        x.keep(1);
        while (x.told(6) < 230) {
            x.feed(' ');
        }
        for (int i = 0; i < 20; i++) {
            x.left(0, i % 10, 5);
            x.can(1, 0, 1 + i, 5);
            x.write(1, 0, i);
        }
        return x;
    }

    private static BerryLane withoutBushes() {
        BerryLane x = Due.lane("l4 5 2;p10 8 2 0;p0 12 0 1;c9;");
        x.seed(5);
        x.keep(0);
        x.day(1, true);
        x.feed('l');
        return x;
    }

    private static void from(Supplier<BerryLane> some) {
        state = some;
        before = Look.into(some.get());
    }

    private static void refused(int due, String name, Call call) {
        BerryLane x = state.get();
        Due.is(name, call.on(x), due);
        Look.same(name + " changes nothing", Look.into(x), before);
    }

    private static void theirNumbers() {
        Due.is("NONE", NONE, -1);
        Due.is("UNKNOWN", UNKNOWN, -1000000001);
        Due.is("OUTSIDE", OUTSIDE, -1000000002);
        Due.is("NOT", NOT, -1000000003);
        Due.is("FULL", FULL, -1000000004);
    }

    private static void theLane() {
        refused(OUTSIDE, "feed(-1)", x -> x.feed(-1));
        refused(OUTSIDE, "feed(256)", x -> x.feed(256));
        refused(OUTSIDE, "told(-1)", x -> x.told(-1));
        refused(OUTSIDE, "told(12)", x -> x.told(12));
        refused(UNKNOWN, "bush(2, 6)", x -> x.bush(2, 6));
        refused(UNKNOWN, "bush(-1, -1)", x -> x.bush(-1, -1));
        refused(OUTSIDE, "bush(1, 6)", x -> x.bush(1, 6));
        refused(OUTSIDE, "bush(1, -1)", x -> x.bush(1, -1));
        refused(UNKNOWN, "picker(2, 8)", x -> x.picker(2, 8));
        refused(UNKNOWN, "picker(-1, -1)", x -> x.picker(-1, -1));
        refused(OUTSIDE, "picker(1, 8)", x -> x.picker(1, 8));
        refused(OUTSIDE, "picker(1, -1)", x -> x.picker(1, -1));
        refused(UNKNOWN, "gives(2, 0)", x -> x.gives(2, 0));
        refused(UNKNOWN, "gives(0, 2)", x -> x.gives(0, 2));
        refused(UNKNOWN, "way(2, 0)", x -> x.way(2, 0));
        refused(UNKNOWN, "way(0, 2)", x -> x.way(0, 2));
    }

    private static void whatIsDone() {
        refused(UNKNOWN, "go(2, 0)", x -> x.go(2, 0));
        refused(UNKNOWN, "go(0, 2)", x -> x.go(0, 2));
        refused(UNKNOWN, "go(-1, -1)", x -> x.go(-1, -1));
        refused(UNKNOWN, "pick(2, 0, 61)", x -> x.pick(2, 0, 61));
        refused(UNKNOWN, "pick(0, 2, 0)", x -> x.pick(0, 2, 0));
        refused(UNKNOWN, "pick(0, 2, 1)", x -> x.pick(0, 2, 1));
        refused(OUTSIDE, "pick(0, 0, 0)", x -> x.pick(0, 0, 0));
        refused(OUTSIDE, "pick(0, 0, 61)", x -> x.pick(0, 0, 61));
        refused(OUTSIDE, "pick(0, 1, 0), not there", x -> x.pick(0, 1, 0));
        refused(OUTSIDE, "pick(0, 1, 61), not there", x -> x.pick(0, 1, 61));
        refused(NOT, "pick(0, 1, 1), not there", x -> x.pick(0, 1, 1));
        refused(NOT, "pick(1, 0, 60), not there", x -> x.pick(1, 0, 60));
        refused(UNKNOWN, "stick(2, true)", x -> x.stick(2, true));
        refused(UNKNOWN, "stick(-1, false)", x -> x.stick(-1, false));
        refused(UNKNOWN, "pour(2)", x -> x.pour(2));
        refused(UNKNOWN, "pour(-1)", x -> x.pour(-1));
        refused(OUTSIDE, "day(0, true)", x -> x.day(0, true));
        refused(OUTSIDE, "day(100, false)", x -> x.day(100, false));
        refused(OUTSIDE, "drift(0)", x -> x.drift(0));
        refused(OUTSIDE, "drift(100)", x -> x.drift(100));
    }

    private static void tried() {
        refused(UNKNOWN, "length(2, 0, 21)", x -> x.length(2, 0, 21));
        refused(UNKNOWN, "length(0, 2, 21)", x -> x.length(0, 2, 21));
        refused(OUTSIDE, "length(0, 0, 21)", x -> x.length(0, 0, 21));
        refused(UNKNOWN, "best(2, 25, 0, 2)", x -> x.best(2, 25, 0, 2));
        refused(OUTSIDE, "best(0, 25, 0, 0)", x -> x.best(0, 25, 0, 0));
        refused(OUTSIDE, "best(0, 24, 0, 2)", x -> x.best(0, 24, 0, 2));
        refused(UNKNOWN, "where(21, 2)", x -> x.where(21, 2));
        refused(OUTSIDE, "where(21, 1)", x -> x.where(21, 1));
        refused(OUTSIDE, "where(0, NONE)", x -> x.where(0, NONE));
        refused(UNKNOWN, "rivals(0, 0, 21, 3)", x -> x.rivals(0, 0, 21, 3));
        refused(UNKNOWN, "rivals(0, 2, 21, 3)", x -> x.rivals(0, 2, 21, 3));
        refused(OUTSIDE, "rivals(0, 1, 21, 0)", x -> x.rivals(0, 1, 21, 0));
        refused(OUTSIDE, "rivals(0, 1, 20, 3)", x -> x.rivals(0, 1, 20, 3));
        refused(UNKNOWN, "again(2, 31, 2)", x -> x.again(2, 31, 2));
        refused(OUTSIDE, "again(1, 31, 0)", x -> x.again(1, 31, 0));
        refused(OUTSIDE, "again(1, 30, 2)", x -> x.again(1, 30, 2));
        refused(UNKNOWN, "odds(2, 1000, 9, 101)", x -> x.odds(2, 1000, 9, 101));
        refused(OUTSIDE, "odds(1, 1000, 8, 100)", x -> x.odds(1, 1000, 8, 100));
        refused(OUTSIDE, "odds(1, 999, 9, 100)", x -> x.odds(1, 999, 9, 100));
        refused(OUTSIDE, "odds(1, 999, 8, 101)", x -> x.odds(1, 999, 8, 101));
        refused(OUTSIDE, "whom(25, 0)", x -> x.whom(25, 0));
        refused(OUTSIDE, "whom(24, 2)", x -> x.whom(24, 2));
    }

    private static void whatWasSeen() {
        refused(UNKNOWN, "left(2, 10, 1000)", x -> x.left(2, 10, 1000));
        refused(OUTSIDE, "left(0, 10, 5)", x -> x.left(0, 10, 5));
        refused(OUTSIDE, "left(0, 0, 1000)", x -> x.left(0, 0, 1000));
        refused(UNKNOWN, "visited(2, NONE)", x -> x.visited(2, NONE));
        refused(UNKNOWN, "visited(-1, 0)", x -> x.visited(-1, 0));
        refused(UNKNOWN, "can(2, 0, 31, 1000)", x -> x.can(2, 0, 31, 1000));
        refused(UNKNOWN, "can(0, 2, 31, 1000)", x -> x.can(0, 2, 31, 1000));
        refused(OUTSIDE, "can(0, 0, 31, 5)", x -> x.can(0, 0, 31, 5));
        refused(OUTSIDE, "can(0, 0, 1, 1000)", x -> x.can(0, 0, 1, 1000));
        refused(UNKNOWN, "eats(2)", x -> x.eats(2));
        refused(UNKNOWN, "write(2, 0, 21)", x -> x.write(2, 0, 21));
        refused(UNKNOWN, "write(0, 2, 21)", x -> x.write(0, 2, 21));
        refused(OUTSIDE, "write(0, 0, 21)", x -> x.write(0, 0, 21));
        refused(OUTSIDE, "write(0, 0, -1)", x -> x.write(0, 0, -1));
    }

    private static void drawsImages() {
        refused(OUTSIDE, "seed(-1)", x -> x.seed(-1));
        refused(OUTSIDE, "seed(least)", x -> x.seed(Integer.MIN_VALUE));
        refused(UNKNOWN, "keep(2)", x -> x.keep(2));
        refused(UNKNOWN, "keep(-1)", x -> x.keep(-1));
        refused(UNKNOWN, "goBack(2)", x -> x.goBack(2));
        refused(UNKNOWN, "goBack(-1)", x -> x.goBack(-1));
        refused(NOT, "goBack(1)", x -> x.goBack(1));
    }

    private static void full() {
        refused(OUTSIDE, "feed(256), full", x -> x.feed(256));
        refused(OUTSIDE, "feed(-1), full", x -> x.feed(-1));
        refused(FULL, "feed(32), full", x -> x.feed(32));
        refused(UNKNOWN, "left(2, 10, 5), full", x -> x.left(2, 10, 5));
        refused(OUTSIDE, "left(0, 10, 5), full", x -> x.left(0, 10, 5));
        refused(OUTSIDE, "left(0, 0, 1000), full", x -> x.left(0, 0, 1000));
        refused(FULL, "left(1, 9, 5), full", x -> x.left(1, 9, 5));
        refused(UNKNOWN, "can(2, 0, 31, 5), full", x -> x.can(2, 0, 31, 5));
        refused(OUTSIDE, "can(0, 0, 31, 5), full", x -> x.can(0, 0, 31, 5));
        refused(OUTSIDE, "can(0, 0, 1, 1000), full", x -> x.can(0, 0, 1, 1000));
        refused(FULL, "can(0, 1, 30, 5), full", x -> x.can(0, 1, 30, 5));
        refused(UNKNOWN, "write(0, 2, 21), full", x -> x.write(0, 2, 21));
        refused(OUTSIDE, "write(0, 0, 21), full", x -> x.write(0, 0, 21));
        refused(FULL, "write(0, 0, 20), full", x -> x.write(0, 0, 20));
    }

    private static void withoutALane() {
        refused(OUTSIDE, "day(0, true), no law", x -> x.day(0, true));
        refused(OUTSIDE, "day(100, true), no law", x -> x.day(100, true));
        refused(NOT, "day(1, true), no law", x -> x.day(1, true));
        refused(NOT, "day(99, false), no law", x -> x.day(99, false));
        refused(OUTSIDE, "drift(0), no law", x -> x.drift(0));
        refused(OUTSIDE, "drift(100), no law", x -> x.drift(100));
        refused(NOT, "drift(1), no law", x -> x.drift(1));
        refused(NOT, "drift(99), no law", x -> x.drift(99));
        refused(UNKNOWN, "rivals(0, 1, 1, 0), no lane", x -> x.rivals(0, 1, 1, 0));
        refused(OUTSIDE, "where(21, NONE), no lane", x -> x.where(21, NONE));
        refused(OUTSIDE, "whom(25, 0), no lane", x -> x.whom(25, 0));
        refused(NOT, "goBack(0), no lane", x -> x.goBack(0));
    }

    private static void bare() {
        refused(OUTSIDE, "drift(0), no BUSHES", x -> x.drift(0));
        refused(OUTSIDE, "drift(100), no BUSHES", x -> x.drift(100));
        refused(NOT, "drift(1), no BUSHES", x -> x.drift(1));
        refused(UNKNOWN, "rivals(0, 0, 21, 3), no BUSHES", x -> x.rivals(0, 0, 21, 3));
        refused(OUTSIDE, "rivals(0, 1, 21, 0), no BUSHES", x -> x.rivals(0, 1, 21, 0));
        refused(OUTSIDE, "rivals(0, 1, 1, 3), no BUSHES", x -> x.rivals(0, 1, 1, 3));
        refused(NOT, "rivals(0, 1, 1, 0), no BUSHES", x -> x.rivals(0, 1, 1, 0));
        refused(UNKNOWN, "gives(0, 0), no BUSHES", x -> x.gives(0, 0));
        refused(UNKNOWN, "pick(0, 0, 1), no BUSHES", x -> x.pick(0, 0, 1));
    }
}
