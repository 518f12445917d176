/** What was seen, promises 23 to 29: each sentence that names an edge, at it and on both its sides. */
public final class EdgesOfSeenTest {
    private static final int NONE = BerryLane.NONE;
    private static final int UNKNOWN = BerryLane.UNKNOWN;
    private static final int OUTSIDE = BerryLane.OUTSIDE;
    private static final int FULL = BerryLane.FULL;
    private static final String LAW = "l20 20 20;";
    private static final int LEAST = Integer.MIN_VALUE;
    private static final int MOST = Integer.MAX_VALUE;

    public static void main(String[] args) {
        leftBounds();
        leftEightAtMost();
        visitedDays();
        visitedBehindTheDays();
        visitedBerries();
        visitedThereBeingSoMany();
        visitedOfThatBush();
        visitedByDays();
        visitedNumbers();
        visitedFromNow();
        canBounds();
        canEightAtMost();
        eatsNoneToNine();
        eatsHandfuls();
        eatsEachByItself();
        eatsOfAPicker();
        bookBounds();
        bookTwentyAtMost();
        judgeTheFirst();
        judgeOneBehindTheOther();
        judgeFromNow();
        tearsAll();
        seenOfNobody();
        Due.end("EdgesOfSeenTest");
    }

    /** Less than 20 RIPE, nothing RED: dry days change nothing here. */
    private static BerryLane bushOf(int ripe) {
        return Due.lane(LAW + "b0 0 0 0 " + ripe + " 0;p0 20 0 0;");
    }

    private static void visits(String name, BerryLane x, int... due) {
        Due.is(name + ": how many", x.visited(0, NONE), due.length);
        for (int i = 0; i < due.length; i++) {
            Due.is(name + ": number " + i, x.visited(0, i), due[i]);
        }
        Due.is(name + ": no more", x.visited(0, due.length), NONE);
    }

    // ---- what is left

    private static void leftBounds() {
        Due.sentence("behind d days from now (0 .. 9, dry ones) .. LEFT (RIPE 0 .. 999): how much was told.");
        for (int d : new int[] {LEAST, -1, 10, 11, MOST}) {
            Due.is("d " + d, bushOf(5).left(0, d, 5), OUTSIDE);
        }
        for (int ripe : new int[] {LEAST, -1, 1000, 1001, MOST}) {
            Due.is("RIPE " + ripe, bushOf(5).left(0, 0, ripe), OUTSIDE);
        }
        BerryLane x = bushOf(5);
        Due.is("d 0", x.left(0, 0, 5), 1);
        Due.is("d 1", x.left(0, 1, 5), 2);
        Due.is("d 8", x.left(0, 8, 5), 3);
        Due.is("d 9", x.left(0, 9, 5), 4);
        Due.is("RIPE 0", x.left(0, 0, 0), 5);
        Due.is("RIPE 1", x.left(0, 0, 1), 6);
        Due.is("RIPE 998", x.left(0, 0, 998), 7);
        Due.is("RIPE 999", x.left(0, 0, 999), 8);
    }

    private static void leftEightAtMost() {
        Due.sentence("LEFT (8 at most) .. UNKNOWN, OUTSIDE, FULL (8).");
        BerryLane x = Due.lane(LAW + "b0 0 0 0 9 0;b0 0 0 0 9 0;");
        for (int i = 1; i <= 8; i++) {
            Due.is("number " + i, x.left(i % 2, 0, 9), i);
            Due.is("told(9)", x.told(9), i);
        }
        Due.is("a ninth", x.left(0, 0, 9), FULL);
        Due.is("a ninth of the other one", x.left(1, 0, 9), FULL);
        Due.is("a ninth, d 10", x.left(0, 10, 9), OUTSIDE);
        Due.is("a ninth of no BUSH", x.left(2, 10, 9), UNKNOWN);
        Due.is("told(9)", x.told(9), 8);
        x.tear();
        Due.is("room again", x.left(0, 0, 9), 1);
    }

    private static void visitedDays() {
        Due.sentence("days v of 0 to 9");
        BerryLane x = bushOf(5);
        Due.is("how many", x.visited(0, NONE), 50);
        Due.is("the first day", x.visited(0, 0), 1);
        Due.is("the last day", x.visited(0, 49), 905);
        BerryLane last = bushOf(5);
        last.left(0, 8, 5);
        visits("behind 8 days nothing is gone", last, 901, 902, 903, 904, 905);
        BerryLane first = bushOf(5);
        first.left(0, 0, 3);
        visits("today 2 are gone", first, 2);
    }

    private static void visitedBehindTheDays() {
        Due.sentence("(what is LEFT behind v days is so behind that)");
        BerryLane nine = bushOf(5);
        nine.left(0, 9, 3);
        visits("2 gone behind 9 days", nine, 2, 102, 202, 302, 402, 502, 602, 702, 802, 902);
        BerryLane eight = bushOf(5);
        eight.left(0, 8, 3);
        visits("2 gone behind 8 days", eight, 2, 102, 202, 302, 402, 502, 602, 702, 802);
        BerryLane none = bushOf(5);
        none.left(0, 9, 5);
        visits("nothing gone behind 9 days", none);
        BerryLane between = bushOf(5);
        between.left(0, 3, 5);
        between.left(0, 5, 3);
        visits("gone behind 3 days, by the fifth", between, 402, 502);
        BerryLane one = bushOf(5);
        one.left(0, 4, 3);
        one.left(0, 3, 5);
        visits("on the fourth day, told the other way round", one, 402);
        BerryLane back = bushOf(5);
        back.left(0, 3, 3);
        back.left(0, 4, 5);
        visits("they don't come back", back);
    }

    private static void visitedBerries() {
        Due.sentence("berries y of 1 to 99");
        BerryLane one = bushOf(5);
        one.left(0, 0, 4);
        visits("y 1", one, 1);
        BerryLane none = bushOf(5);
        none.left(0, 0, 5);
        Due.is("y 0 is none: from the next day on", none.visited(0, 0), 101);
        int[] left = {20, 21, 22, 23, 121, 120, 119};
        int[] due = {NONE, NONE, 99, 98, NONE, 1, 2};
        for (int i = 0; i < left.length; i++) {
            BerryLane x = bushOf(121);
            x.left(0, 0, left[i]);
            Due.is("121, " + left[i] + " left", x.visited(0, 0), left[i] == 121 ? 101 : due[i]);
        }
        int[] ripe = {97, 98, 99, 100, 101, 300};
        int[] most = {97, 98, 99, 99, 99, 99};
        for (int i = 0; i < ripe.length; i++) {
            BerryLane x = bushOf(ripe[i]);
            Due.is("the last one today of " + ripe[i], x.visited(0, most[i] - 1), most[i]);
            Due.is("behind that of " + ripe[i], x.visited(0, most[i]), 101);
        }
        Due.is("all of ten days", bushOf(300).visited(0, NONE), 990);
        Due.is("the last of ten days", bushOf(300).visited(0, 989), 999);
        Due.is("behind the last of ten days", bushOf(300).visited(0, 990), NONE);
    }

    private static void visitedThereBeingSoMany() {
        Due.sentence("y RIPE ones (there being so many)");
        BerryLane all = bushOf(5);
        all.left(0, 0, 0);
        visits("all are gone today", all, 5);
        BerryLane more = bushOf(5);
        more.left(0, 9, 6);
        visits("there is more than there was", more);
        visits("nothing is RIPE", bushOf(0));
        // 1 RED becomes RIPE tomorrow
        BerryLane red = Due.lane(LAW + "b0 0 0 1 0 0;");
        visits("one from tomorrow on", red, 101, 201, 301, 401, 501, 601, 701, 801, 901);
    }

    private static void visitedOfThatBush() {
        Due.sentence("all that is LEFT of it is so");
        BerryLane x = Due.lane(LAW + "b0 0 0 0 5 0;b0 0 0 0 5 0;");
        x.left(1, 0, 3);
        Due.is("of the other one nothing was told", x.visited(0, NONE), 50);
        Due.is("of this one it was", x.visited(1, NONE), 1);
        x.left(1, 9, 3);
        Due.is("both are so", x.visited(1, NONE), 1);
        x.left(1, 9, 2);
        Due.is("not all are so", x.visited(1, NONE), 0);
        Due.is("not all are so: the first", x.visited(1, 0), NONE);
    }

    private static void visitedByDays() {
        Due.sentence("behind d days from now (0 .. 9, dry ones)");
        // 30, 29 (5 more, 6 less), 28 (4, 5); 5 gone today: 25, 25 (5, 5), 24 (4, 5)
        BerryLane x = Due.lane("l4 5 2;b10 0 0 20 30 6;");
        x.left(0, 1, 25);
        visits("behind a day", x, 5, 6, 104);
        BerryLane y = Due.lane("l4 5 2;b10 0 0 20 30 6;");
        y.left(0, 2, 28);
        // 29, 29 (5, 5), 28 (4, 5)
        Due.is("behind two days: 1 gone today is not seen", y.visited(0, 0), 1);
        Due.is("behind two days: else nothing is gone till then", y.visited(0, 1), 301);
        // shaded: 20 and 7 of 8 is 3 a day: 3 less 0 and 3
        BerryLane shaded = Due.lane("l4 5 2;b10 0 2 20 3 6;");
        shaded.left(0, 1, 5);
        visits("shaded", shaded, 1, 101);
    }

    private static void visitedNumbers() {
        Due.sentence("i = NONE how many, else the i-th; NONE: not so many.");
        BerryLane x = bushOf(2);
        Due.is("i NONE", x.visited(0, NONE), 20);
        Due.is("i 0", x.visited(0, 0), 1);
        Due.is("i 1", x.visited(0, 1), 2);
        Due.is("i 2", x.visited(0, 2), 101);
        Due.is("i 19", x.visited(0, 19), 902);
        for (int i : new int[] {LEAST, -3, -2, 20, 21, MOST}) {
            Due.is("i " + i, x.visited(0, i), NONE);
        }
    }

    private static void visitedFromNow() {
        Due.sentence("from now");
        BerryLane x = bushOf(8);
        x.left(0, 0, 4);
        visits("4 of 8", x, 4);
        x.pick(0, 0, 1);
        visits("2 of 6", x, 2);
        x.day(9, false);
        visits("from the ninth day on", x, 2);
    }

    // ---- cans

    private static void canBounds() {
        Due.sentence("a PICKER takes h HANDFULS (1 .. 30) at a BUSH and has so much more (0 .. 999) in his CAN");
        for (int h : new int[] {LEAST, -1, 0, 31, 32, MOST}) {
            Due.is("h " + h, bushOf(5).can(0, 0, h, 0), OUTSIDE);
        }
        for (int much : new int[] {LEAST, -1, 1000, 1001, MOST}) {
            Due.is("much " + much, bushOf(5).can(0, 0, 1, much), OUTSIDE);
        }
        BerryLane x = bushOf(5);
        Due.is("h 1", x.can(0, 0, 1, 5), 1);
        Due.is("h 2", x.can(0, 0, 2, 5), 2);
        Due.is("h 29", x.can(0, 0, 29, 5), 3);
        Due.is("h 30", x.can(0, 0, 30, 5), 4);
        Due.is("much 0", x.can(0, 0, 1, 0), 5);
        Due.is("much 1", x.can(0, 0, 1, 1), 6);
        Due.is("much 998", x.can(0, 0, 1, 998), 7);
        Due.is("much 999", x.can(0, 0, 1, 999), 8);
    }

    private static void canEightAtMost() {
        Due.sentence("CANS told (8 at most) .. UNKNOWN, OUTSIDE, FULL (8).");
        BerryLane x = Due.lane(LAW + "b0 0 0 0 9 0;p0 1 0 0;p0 1 0 0;");
        for (int i = 1; i <= 8; i++) {
            Due.is("number " + i, x.can(i % 2, 0, 1, 1), i);
            Due.is("told(10)", x.told(10), i);
        }
        Due.is("a ninth", x.can(0, 0, 1, 1), FULL);
        Due.is("a ninth of the other one", x.can(1, 0, 1, 1), FULL);
        Due.is("a ninth, h 31", x.can(0, 0, 31, 1), OUTSIDE);
        Due.is("a ninth of no PICKER", x.can(2, 0, 31, 1), UNKNOWN);
        Due.is("told(10)", x.told(10), 8);
        x.tear();
        Due.is("room again", x.can(0, 0, 1, 1), 1);
    }

    private static int eats(int q, int h, int much) {
        BerryLane x = Due.lane(LAW + "b0 0 0 0 300 0;p0 " + q + " 4 0;c1;");
        x.can(0, 0, h, much);
        return x.eats(0);
    }

    private static void eatsNoneToNine() {
        Due.sentence("E of 0 to 9 (a SET) by which all CANS told of a PICKER are so");
        Due.is("nothing told", bushOf(5).eats(0), 1023);
        Due.is("21 of 20", eats(20, 1, 21), 0);
        Due.is("20 of 20: E 0", eats(20, 1, 20), 1);
        Due.is("19 of 20: E 1", eats(20, 1, 19), 2);
        Due.is("12 of 20: E 8", eats(20, 1, 12), 256);
        Due.is("11 of 20: E 9", eats(20, 1, 11), 512);
        Due.is("10 of 20", eats(20, 1, 10), 0);
        Due.is("0 of 10", eats(10, 1, 0), 0);
        Due.is("0 of 9: E 9", eats(9, 1, 0), 512);
        Due.is("0 of 8: E 8, 9", eats(8, 1, 0), 256 + 512);
        Due.is("0 of 1: E 1 to 9", eats(1, 1, 0), 1022);
        Due.is("999", eats(20, 30, 999), 0);
    }

    private static void eatsHandfuls() {
        Due.sentence("takes h HANDFULS (1 .. 30) at a BUSH");
        Due.is("1 of 1", eats(1, 1, 1), 1);
        Due.is("29 of 29", eats(1, 29, 29), 1);
        Due.is("30 of 29", eats(1, 29, 30), 0);
        Due.is("30 of 30", eats(1, 30, 30), 1);
        Due.is("31 of 30", eats(1, 30, 31), 0);
        // each handful gives less than the one ahead of it: of 30 6, 5, 4; E 5: 1
        BerryLane x = Due.lane(LAW + "b0 0 0 0 30 0;b0 0 1 0 30 0;p0 20 0 0;");
        x.can(0, 0, 3, 1);
        Due.is("1 of 6, 5, 4", x.eats(0), 32);
        BerryLane half = Due.lane(LAW + "b0 0 1 0 30 0;p0 20 0 0;");
        half.can(0, 0, 1, 2);
        Due.is("2 of half of 6: E 1", half.eats(0), 2);
        half.stick(0, true);
        Due.is("2 of 6: E 4", half.eats(0), 16);
    }

    private static void eatsEachByItself() {
        Due.sentence("(as if it had no end; each told by itself)");
        BerryLane x = Due.lane(LAW + "b0 0 0 0 30 0;p0 20 3 0;c1;");
        for (int i = 0; i < 8; i++) {
            x.can(0, 0, 1, 4);
            Due.is("4 of 6, " + i, x.eats(0), 4);
        }
        x.tear();
        x.can(0, 0, 1, 4);
        x.can(0, 0, 1, 3);
        Due.is("4 of 6 and 3 of 6", x.eats(0), 0);
    }

    private static void eatsOfAPicker() {
        Due.sentence("all CANS told of a PICKER");
        BerryLane x = Due.lane(LAW + "b0 0 0 0 30 0;p0 20 3 0;p0 20 3 0;");
        x.can(0, 0, 1, 4);
        x.can(1, 0, 1, 0);
        Due.is("of 0", x.eats(0), 4);
        Due.is("of 1: E 6 to 9", x.eats(1), 64 + 128 + 256 + 512);
        Due.is("E is as it was", x.picker(0, 3), 3);
    }

    // ---- the book

    private static void bookBounds() {
        Due.sentence("what it GAVE (0 .. 20)");
        for (int gave : new int[] {LEAST, -1, 21, 22, MOST}) {
            BerryLane x = bushOf(5);
            Due.is("gave " + gave, x.write(0, 0, gave), OUTSIDE);
            Due.is("told(11)", x.told(11), 0);
        }
        BerryLane x = bushOf(5);
        Due.is("gave 0", x.write(0, 0, 0), 1);
        Due.is("gave 1", x.write(0, 0, 1), 2);
        Due.is("gave 19", x.write(0, 0, 19), 3);
        Due.is("gave 20", x.write(0, 0, 20), 4);
        BerryLane all = bushOf(300);
        all.write(0, 0, 20);
        Due.is("20 were given", all.judge(), NONE);
        BerryLane none = bushOf(0);
        none.write(0, 0, 0);
        Due.is("0 were given", none.judge(), NONE);
    }

    private static void bookTwentyAtMost() {
        Due.sentence("THE BOOK (20 at most) .. UNKNOWN, OUTSIDE, FULL (20).");
        BerryLane x = bushOf(5);
        for (int i = 1; i <= 20; i++) {
            Due.is("number " + i, x.write(0, 0, 1), i);
            Due.is("told(11)", x.told(11), i);
        }
        Due.is("the 21st", x.write(0, 0, 1), FULL);
        Due.is("the 21st, 21", x.write(0, 0, 21), OUTSIDE);
        Due.is("the 21st of nobody", x.write(1, 0, 21), UNKNOWN);
        Due.is("told(11)", x.told(11), 20);
        x.tear();
        Due.is("room again", x.write(0, 0, 1), 1);
    }

    private static void judgeTheFirst() {
        Due.sentence("WRONG: the first that is otherwise; NONE.");
        Due.is("no lane", new BerryLane().judge(), NONE);
        Due.is("nothing written", bushOf(5).judge(), NONE);
        for (int wrong = 0; wrong <= 20; wrong++) {
            BerryLane x = Due.lane(LAW + "b0 0 0 0 300 0;p0 9 0 0;");
            for (int i = 0; i < 20; i++) {
                x.write(0, 0, i == wrong ? 8 : 9);
            }
            Due.is("number " + wrong + " is otherwise", x.judge(), wrong == 20 ? NONE : wrong);
        }
        BerryLane two = bushOf(300);
        two.write(0, 0, 20);
        two.write(0, 0, 19);
        two.write(0, 0, 18);
        Due.is("two are otherwise", two.judge(), 1);
    }

    private static void judgeOneBehindTheOther() {
        Due.sentence("tells HANDFULS one behind the other from now");
        BerryLane x = Due.lane(LAW + "b0 0 0 0 6 0;b99 1 0 0 6 0;p0 9 0 0;p50 9 9 0;");
        int[][] rows = {{0, 0, 2}, {1, 1, 2}, {1, 0, 1}, {0, 1, 1}, {0, 0, 1}, {0, 0, 1}, {0, 0, 1}, {0, 0, 0}, {1, 1, 1}};
        for (int[] row : rows) {
            x.write(row[0], row[1], row[2]);
            Due.is("so far", x.judge(), NONE);
        }
        x.write(0, 0, 1);
        Due.is("nothing is left there", x.judge(), 9);
        Due.is("RIPE is as it was", x.bush(0, 4), 6);
        BerryLane six = Due.lane(LAW + "b0 0 0 0 6 0;".repeat(6) + "p0 9 0 0;");
        for (int i = 0; i < 12; i++) {
            six.write(0, i % 6, i < 6 ? 2 : 1);
            Due.is("six bushes, so far", six.judge(), NONE);
        }
    }

    private static void judgeFromNow() {
        Due.sentence("from now");
        BerryLane x = bushOf(11);
        x.write(0, 0, 3);
        x.write(0, 0, 2);
        Due.is("3 and 2 of 11", x.judge(), NONE);
        x.pick(0, 0, 1);
        Due.is("2 and 2 of 8", x.judge(), 0);
        BerryLane high = Due.lane(LAW + "b0 0 1 0 300 0;p0 9 0 0;");
        high.write(0, 0, 4);
        Due.is("4, not reaching high", high.judge(), NONE);
        high.stick(0, true);
        Due.is("9, reaching high", high.judge(), 0);
    }

    private static void tearsAll() {
        Due.sentence("Nothing LEFT, no CANS told, THE BOOK is empty: how many of all there were.");
        Due.is("of a new object", new BerryLane().tear(), 0);
        BerryLane x = bushOf(5);
        Due.is("nothing", x.tear(), 0);
        x.left(0, 0, 1);
        Due.is("one LEFT", x.tear(), 1);
        x.can(0, 0, 1, 9);
        Due.is("one CAN", x.tear(), 1);
        x.write(0, 0, 9);
        Due.is("one entry", x.tear(), 1);
        for (int i = 0; i < 20; i++) {
            x.left(0, 0, 1);
            x.can(0, 0, 1, 9);
            x.write(0, 0, 9);
        }
        Due.is("as many as there can be", x.tear(), 8 + 8 + 20);
        Due.is("told(9)", x.told(9), 0);
        Due.is("told(10)", x.told(10), 0);
        Due.is("told(11)", x.told(11), 0);
        Due.is("visited", x.visited(0, NONE), 50);
        Due.is("eats", x.eats(0), 1023);
        Due.is("judge", x.judge(), NONE);
        Due.is("once more", x.tear(), 0);
    }

    private static void seenOfNobody() {
        Due.sentence("UNKNOWN (a BUSH, PICKER, IMAGE that there is not");
        BerryLane x = Due.lane(LAW + "b0 0 0 0 9 0;b0 0 0 0 9 0;p0 9 0 0;p0 9 0 0;p0 9 0 0;");
        for (int b : new int[] {LEAST, -1, 2, 5, 6, MOST}) {
            Due.is("left(" + b + ", 0, 0)", x.left(b, 0, 0), UNKNOWN);
            Due.is("left(" + b + ", 10, 0)", x.left(b, 10, 0), UNKNOWN);
            Due.is("visited(" + b + ", NONE)", x.visited(b, NONE), UNKNOWN);
            Due.is("visited(" + b + ", 0)", x.visited(b, 0), UNKNOWN);
            Due.is("can(0, " + b + ", 1, 1)", x.can(0, b, 1, 1), UNKNOWN);
            Due.is("can(0, " + b + ", 0, 1)", x.can(0, b, 0, 1), UNKNOWN);
            Due.is("write(0, " + b + ", 1)", x.write(0, b, 1), UNKNOWN);
            Due.is("write(0, " + b + ", 21)", x.write(0, b, 21), UNKNOWN);
        }
        for (int p : new int[] {LEAST, -1, 3, 4, MOST}) {
            Due.is("can(" + p + ", 0, 1, 1)", x.can(p, 0, 1, 1), UNKNOWN);
            Due.is("write(" + p + ", 0, 1)", x.write(p, 0, 1), UNKNOWN);
            Due.is("eats(" + p + ")", x.eats(p), UNKNOWN);
        }
        Due.is("nothing was told", x.tear(), 0);
        Due.is("left(1, 0, 0)", x.left(1, 0, 0), 1);
        Due.is("can(2, 1, 1, 1)", x.can(2, 1, 1, 1), 1);
        Due.is("write(2, 1, 1)", x.write(2, 1, 1), 1);
        Due.is("eats(2)", x.eats(2), 2);
        Due.is("visited(1, NONE)", x.visited(1, NONE), 1);
    }
}
