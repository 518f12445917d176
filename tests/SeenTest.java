/** Promises 23 to 29: what is left and whether somebody was here, cans and who eats, the book. */
public final class SeenTest {
    private static final int NONE = BerryLane.NONE;
    private static final int UNKNOWN = BerryLane.UNKNOWN;
    private static final int OUTSIDE = BerryLane.OUTSIDE;
    private static final int FULL = BerryLane.FULL;

    public static void main(String[] args) {
        leftTold();
        visits();
        visitsOnLaterDays();
        visitsFromNow();
        cansTold();
        appetites();
        bookWritten();
        bookJudged();
        torn();
        Due.end("SeenTest");
    }

    private static void leftTold() {
        BerryLane x = Due.lane("l4 5 2;b10 0 0 20 30 6;");
        Due.is("no such bush", x.left(1, 10, 1000), UNKNOWN);
        Due.is("d -1", x.left(0, -1, 0), OUTSIDE);
        Due.is("d 10", x.left(0, 10, 0), OUTSIDE);
        Due.is("ripe -1", x.left(0, 0, -1), OUTSIDE);
        Due.is("ripe 1000", x.left(0, 0, 1000), OUTSIDE);
        for (int i = 1; i <= 8; i++) {
            Due.is("left " + i, x.left(0, i, i == 8 ? 999 : 0), i);
        }
        Due.is("a ninth", x.left(0, 0, 0), FULL);
        Due.is("a ninth out of bounds", x.left(0, 0, 1000), OUTSIDE);
        Due.is("told(9)", x.told(9), 8);
    }

    private static void visits() {
        BerryLane x = Due.lane("l1 20 20;b0 0 0 0 5 0;b0 0 0 0 120 0;b0 0 0 0 0 0;");
        // 5 stay 5 for ten days: 5 a day
        Due.is("nothing left was told", x.visited(0, NONE), 50);
        Due.is("the first", x.visited(0, 0), 1);
        Due.is("the fifth", x.visited(0, 4), 5);
        Due.is("the sixth", x.visited(0, 5), 101);
        Due.is("the last", x.visited(0, 49), 905);
        Due.is("behind the last", x.visited(0, 50), NONE);
        Due.is("far behind", x.visited(0, Integer.MAX_VALUE), NONE);
        Due.is("99 at most", x.visited(1, 98), 99);
        Due.is("then the next day", x.visited(1, 99), 101);
        Due.is("nothing to take", x.visited(2, NONE), 0);
        Due.is("nothing to take: the first", x.visited(2, 0), NONE);
        x.left(0, 0, 5);
        Due.is("5 now: not on this day", x.visited(0, NONE), 45);
        Due.is("5 now: the first", x.visited(0, 0), 101);
        x.left(0, 3, 2);
        Due.is("2 in three days: 3 on day 1, 2 or 3", x.visited(0, NONE), 3);
        Due.is("first", x.visited(0, 0), 103);
        Due.is("second", x.visited(0, 1), 203);
        Due.is("third", x.visited(0, 2), 303);
        Due.is("fourth", x.visited(0, 3), NONE);
        Due.is("of another bush nothing was told", x.visited(2, NONE), 0);
        x.left(0, 3, 1);
        Due.is("it can't be both", x.visited(0, NONE), 0);
        Due.is("no such bush", x.visited(3, NONE), UNKNOWN);
        Due.is("bush -1", x.visited(-1, NONE), UNKNOWN);
        Due.is("told is not changed", x.told(9), 3);
        Due.is("ripe is not changed", x.bush(0, 4), 5);
    }

    private static void visitsOnLaterDays() {
        // 30, 29, 28 dry; 30 - 5 = 25 now: + 5 - 5 = 25, + 4 - 5 = 24
        BerryLane x = Due.lane("l4 5 2;b10 0 0 20 30 6;");
        x.left(0, 2, 24);
        x.left(0, 1, 25);
        Due.is("how many", x.visited(0, NONE), 3);
        // 25 a day on: 30 - y, then + 5 - (30 - y) / 5 = 25: y 4 (26 + 5 - 5 = 26) no, 5, 6 (24 + 5 - 4 = 25)
        Due.is("now, 5", x.visited(0, 0), 5);
        Due.is("now, 6", x.visited(0, 1), 6);
        Due.is("in a day, 4", x.visited(0, 2), 104);
        Due.is("no more", x.visited(0, 3), NONE);
    }

    private static void visitsFromNow() {
        BerryLane x = Due.lane("l1 20 20;b0 0 0 0 5 0;p0 20 0 0;");
        x.left(0, 0, 3);
        Due.is("2 of 5", x.visited(0, 0), 2);
        x.pick(0, 0, 1);
        Due.is("1 of 4", x.visited(0, 0), 1);
        x.pick(0, 0, 1);
        Due.is("3 there being: on any of the nine days behind", x.visited(0, NONE), 27);
        Due.is("3 there being: not on this day", x.visited(0, 0), 101);
    }

    private static void cansTold() {
        BerryLane x = Due.lane("l1 1 1;b0 0 0 0 30 0;p0 8 2 0;");
        Due.is("no such picker", x.can(1, 0, 0, 0), UNKNOWN);
        Due.is("no such bush", x.can(0, 1, 31, 0), UNKNOWN);
        Due.is("h 0", x.can(0, 0, 0, 0), OUTSIDE);
        Due.is("h 31", x.can(0, 0, 31, 0), OUTSIDE);
        Due.is("much -1", x.can(0, 0, 1, -1), OUTSIDE);
        Due.is("much 1000", x.can(0, 0, 1, 1000), OUTSIDE);
        for (int i = 1; i <= 8; i++) {
            Due.is("can " + i, x.can(0, 0, i == 8 ? 30 : 1, i == 8 ? 999 : 0), i);
        }
        Due.is("a ninth", x.can(0, 0, 1, 0), FULL);
        Due.is("a ninth out of bounds", x.can(0, 0, 0, 0), OUTSIDE);
        Due.is("told(10)", x.told(10), 8);
    }

    private static void appetites() {
        BerryLane x = Due.lane("l1 1 1;b0 0 0 0 30 0;b0 0 1 0 300 0;p0 8 2 0;p0 8 9 0;p0 6 0 1;c1;");
        Due.is("nothing told", x.eats(0), 1023);
        x.can(0, 0, 1, 4);
        Due.is("6 less 4", x.eats(0), 1 << 2);
        x.can(1, 0, 1, 0);
        Due.is("6 or more", x.eats(1), 1 << 6 | 1 << 7 | 1 << 8 | 1 << 9);
        x.can(1, 1, 2, 0);
        Due.is("half handfuls of 4: 4 or more, too", x.eats(1), 1 << 6 | 1 << 7 | 1 << 8 | 1 << 9);
        x.can(1, 0, 2, 1);
        Due.is("it can't be", x.eats(1), 0);
        // each told by itself: 6 and 5 and 4 of 30 again
        x.can(0, 0, 3, 9);
        Due.is("4 and 3 and 2", x.eats(0), 1 << 2);
        x.can(2, 1, 30, 150);
        Due.is("6 less 1, though a can holds 1", x.eats(2), 1 << 1);
        x.pour(0);
        Due.is("no such picker", x.eats(3), UNKNOWN);
        Due.is("picker -1", x.eats(-1), UNKNOWN);
        Due.is("appetite is not changed", x.picker(1, 3), 9);
        Due.is("ripe is not changed", x.bush(0, 4), 30);
    }

    private static void bookWritten() {
        BerryLane x = Due.lane("l1 1 1;b0 0 0 0 30 0;p0 8 2 0;");
        Due.is("no such picker", x.write(1, 0, 21), UNKNOWN);
        Due.is("no such bush", x.write(0, -1, 21), UNKNOWN);
        Due.is("gave -1", x.write(0, 0, -1), OUTSIDE);
        Due.is("gave 21", x.write(0, 0, 21), OUTSIDE);
        for (int i = 1; i <= 20; i++) {
            Due.is("write " + i, x.write(0, 0, i == 20 ? 20 : 0), i);
        }
        Due.is("one more", x.write(0, 0, 0), FULL);
        Due.is("one more out of bounds", x.write(0, 0, 21), OUTSIDE);
        Due.is("told(11)", x.told(11), 20);
    }

    private static void bookJudged() {
        BerryLane x = Due.lane("l1 1 1;b0 0 0 0 30 0;b99 1 1 0 40 0;p0 8 2 0;p0 12 0 1;");
        Due.is("nothing written", x.judge(), NONE);
        x.write(0, 0, 6);
        x.write(1, 0, 5);
        x.write(0, 1, 4);
        x.write(1, 1, 8);
        x.write(0, 0, 4);
        Due.is("all right", x.judge(), NONE);
        x.write(0, 0, 4);
        Due.is("3 of 15", x.judge(), 5);
        x.write(1, 1, 0);
        Due.is("the first wrong one", x.judge(), 5);
        x.pick(0, 0, 1);
        Due.is("from now: 5 of 24", x.judge(), 0);
        Due.is("ripe is not changed", x.bush(1, 4), 40);
        Due.is("without a lane", new BerryLane().judge(), NONE);
    }

    private static void torn() {
        BerryLane x = Due.lane("l1 20 20;b0 0 0 0 5 0;p0 8 2 0;");
        Due.is("nothing to tear", x.tear(), 0);
        x.left(0, 0, 9);
        x.left(0, 0, 9);
        x.can(0, 0, 1, 99);
        x.write(0, 0, 20);
        x.write(0, 0, 20);
        x.write(0, 0, 20);
        Due.is("tear()", x.tear(), 6);
        Due.is("told(9)", x.told(9), 0);
        Due.is("told(10)", x.told(10), 0);
        Due.is("told(11)", x.told(11), 0);
        Due.is("visited", x.visited(0, NONE), 50);
        Due.is("eats", x.eats(0), 1023);
        Due.is("judge", x.judge(), NONE);
        Due.is("tear() again", x.tear(), 0);
        Due.is("left again", x.left(0, 0, 4), 1);
        Due.is("visited", x.visited(0, NONE), 1);
    }
}
