/** What is tried, promises 16 to 22: each sentence that names an edge, at it and on both its sides. */
public final class EdgesOfTriedTest {
    private static final int NONE = BerryLane.NONE;
    private static final int UNKNOWN = BerryLane.UNKNOWN;
    private static final int OUTSIDE = BerryLane.OUTSIDE;
    private static final int NOT = BerryLane.NOT;
    private static final int BILLION = 1000000000;
    private static final String LAW = "l20 20 20;";
    private static final int LEAST = Integer.MIN_VALUE;
    private static final int MOST = Integer.MAX_VALUE;

    public static void main(String[] args) {
        nothingChanges();
        askedAgain();
        theLaneBeforeIsGone();
        lengthRates();
        lengthIsMoreThanTheRate();
        lengthSixtyAtMost();
        cansWithoutEnd();
        bestMoments();
        bestTimeIsJustEnough();
        bestWaysFarApart();
        bestEachBushOnce();
        bestNoneMoreAhead();
        bestLesserBushAhead();
        bestFewerHandfulsAhead();
        bestNumbersOfBushes();
        bestWhat();
        whereHandfuls();
        whereUnlikeBushes();
        whereNoneIfFewer();
        whereOfLikeOnes();
        whereWithoutWays();
        rivalsHandfuls();
        rivalsWhat();
        rivalsTwice();
        rivalsNeedBushes();
        rivalsTakeByTurns();
        rivalsOfLikeOnes();
        rivalsTurns();
        againDays();
        againOfLikeOnes();
        againWhat();
        oddsBounds();
        oddsSoManyOrMore();
        oddsAreCut();
        oddsOfDryAndRainy();
        whomMoments();
        whomWhat();
        whomReachesHigh();
        whomOfLikeOnes();
        whomWithoutPickers();
        triedOfNobody();
        Due.end("EdgesOfTriedTest");
    }

    private static void nothingChanges() {
        Due.sentence("TRIED from now; nothing changes by it.");
        for (int call = 0; call < 7; call++) {
            BerryLane x = tried();
            switch (call) {
                case 0 -> x.length(0, 1, 0);
                case 1 -> x.best(1, 24, 1, 0);
                case 2 -> x.where(20, 1);
                case 3 -> x.rivals(1, 0, 20, 1);
                case 4 -> x.again(1, 30, 0);
                case 5 -> x.odds(1, 5, 8, 50);
                default -> x.whom(24, 0);
            }
            Look.same("call " + call, Look.into(x), Look.into(tried()));
        }
    }

    private static BerryLane tried() {
        BerryLane x = Due.lane("l4 5 2;b10 0 0 20 30 6;b25 1 1 9 40 0;b40 0 2 50 7 3;p10 8 2 0;p0 12 0 1;c9;");
        x.keep(0);
        x.pick(0, 0, 3);
        x.day(1, true);
        x.go(1, 1);
        x.left(1, 2, 9);
        x.can(0, 1, 2, 3);
        x.write(1, 1, 4);
        x.seed(3);
        return x;
    }

    private static int[] answers(BerryLane x, int p, int b, int t) {
        int other = (p + 1) % x.told(4);
        return new int[] {x.length(p, b, 0), x.best(p, t, NONE, 0), x.best(p, t, 0, 0), x.best(p, t, 0, 1),
            x.best(p, t, 1, 0), x.best(p, t, 1, 1), x.where(t % 20 + 1, NONE), x.where(t % 20 + 1, p),
            x.rivals(p, other, t % 20 + 1, 0), x.rivals(p, other, t % 20 + 1, 1), x.rivals(p, other, t % 20 + 1, 2),
            x.again(b, t, 0), x.again(b, t, 1), x.odds(b, 5, t % 8 + 1, t), x.whom(t, 0), x.whom(t, 1)};
    }

    private static void asOf(String name, BerryLane x, String text) {
        for (int p = 0; p < x.told(4); p++) {
            for (int b = 0; b < x.told(3); b++) {
                for (int t : new int[] {24, 1, 12, 5}) {
                    int[] due = answers(Due.lane(text), p, b, t);
                    int[] got = answers(x, p, b, t);
                    for (int i = 0; i < due.length; i++) {
                        Due.is(name + ": answer " + i + " of " + p + ", " + b + ", " + t, got[i], due[i]);
                    }
                }
            }
        }
    }

    private static final String SIX = "l4 5 2;b99 1 0 90 9 0;b0 0 3 300 300 0;b25 1 1 99 40 0;b40 0 2 50 7 3;b9 0 0 9 21 0;b60 1 3 80 90 0;"
            + "p10 8 2 0;p0 12 0 1;p99 7 1 0;";

    private static void askedAgain() {
        Due.sentence("TRIED from now; nothing changes by it.");
        asOf("asked again and again", Due.lane(SIX), SIX);
    }

    private static void theLaneBeforeIsGone() {
        Due.sentence("becomes THE LANE");
        String two = "l9 9 9;b5 0 0 30 9 0;b5 0 0 20 8 0;p0 3 0 0;p0 4 0 0;";
        BerryLane x = Due.lane(SIX);
        answers(x, 0, 0, 24);
        Due.feed(x, two);
        x.lane();
        asOf("two bushes behind six", x, two);
    }

    // ---- length

    private static int length(int kind, int ripe, int q, int e, int r) {
        return Due.lane(LAW + "b50 1 " + kind + " 0 " + ripe + " 0;p0 " + q + " " + e + " 1;").length(0, 0, r);
    }

    private static void lengthRates() {
        Due.sentence("a rate r (0 .. 20)");
        for (int r : new int[] {LEAST, -2, -1, 21, 22, MOST}) {
            Due.is("rate " + r, length(0, 300, 20, 0, r), OUTSIDE);
        }
        Due.is("rate 0", length(0, 1, 20, 0, 0), 1);
        Due.is("rate 19", length(0, 300, 20, 0, 19), 11);
        Due.is("rate 20", length(0, 300, 20, 0, 20), 0);
    }

    private static void lengthIsMoreThanTheRate() {
        Due.sentence("how many HANDFULS each give more to the CAN .. than r a MOMENT, one behind the other, till one does not");
        // 20 and 16, 13, 10 (64 less 13 is 51: 11), 40: 8
        Due.is("of 80, 16 is not more than 16", length(0, 80, 20, 0, 16), 0);
        Due.is("of 80, 16 is more than 15", length(0, 80, 20, 0, 15), 1);
        Due.is("of 64, 13 is not more than 13", length(0, 80, 20, 0, 13), 1);
        Due.is("of 64, 13 is more than 12", length(0, 80, 20, 0, 12), 2);
        Due.is("of 51, 11 is more than 10", length(0, 80, 20, 0, 10), 3);
        Due.is("what is eaten is not in the CAN: 5 less 4", length(0, 5, 5, 4, 0), 0);
        Due.is("5 of 300 less 4", length(0, 25, 5, 4, 0), 1);
        Due.is("5 of 300 less 5", length(0, 300, 5, 5, 0), 0);
        Due.is("5 of 300 less 4, more than 1", length(0, 300, 5, 4, 1), 0);
        Due.is("nothing is there", length(0, 0, 5, 0, 0), 0);
        Due.sentence("waspy: a handful takes 2 MOMENTS there");
        Due.is("wasps: 4 is not more than 2 times 2", length(3, 20, 4, 0, 2), 0);
        Due.is("wasps: 5 is more than 2 times 2", length(3, 25, 5, 0, 2), 1);
        Due.is("wasps: 20 is not more than 2 times 10", length(3, 300, 20, 0, 10), 0);
        Due.is("wasps: 20 is more than 2 times 9", length(3, 300, 20, 0, 9), 11);
        Due.is("no wasps: 20 is more than 10", length(2, 300, 20, 0, 10) > 0 ? 1 : 0, 1);
    }

    private static void lengthSixtyAtMost() {
        Due.sentence("(60 at most)");
        int[] ripe = {1, 58, 59, 60, 61, 300};
        int[] due = {1, 58, 59, 60, 60, 60};
        for (int i = 0; i < ripe.length; i++) {
            Due.is("of " + ripe[i], length(0, ripe[i], 1, 0, 0), due[i]);
        }
    }

    private static void cansWithoutEnd() {
        Due.sentence("(as if it had no end)");
        for (String can : new String[] {"c1;", "c999;"}) {
            BerryLane x = Due.lane(LAW + "b0 0 0 0 300 0;b0 0 0 0 300 0;p0 20 0 0;p0 19 0 0;" + can);
            x.pick(0, 0, 1);
            Due.is("length", x.length(0, 1, 19), 11);
            Due.is("best", x.best(0, 10, NONE, 0), 200);
            Due.is("where", x.where(5, NONE), 195);
            Due.is("rivals", x.rivals(0, 1, 10, 0), 1);
            x.can(0, 1, 5, 100);
            Due.is("eats", x.eats(0), 1);
        }
    }

    // ---- best way

    private static void way(BerryLane x, int t, int... due) {
        Due.is("in " + t, x.best(0, t, NONE, 0), due[0]);
        int stops = (due.length - 1) / 2;
        for (int i = 0; i < stops; i++) {
            Due.is("in " + t + ": BUSH " + i, x.best(0, t, i, 0), due[1 + 2 * i]);
            Due.is("in " + t + ": HANDFULS at " + i, x.best(0, t, i, 1), due[2 + 2 * i]);
        }
        Due.is("in " + t + ": no BUSH " + stops, x.best(0, t, stops, 0), NONE);
        Due.is("in " + t + ": no HANDFULS at " + stops, x.best(0, t, stops, 1), NONE);
    }

    private static void bestMoments() {
        Due.sentence("BEST WAY of a PICKER in t MOMENTS (1 .. 24)");
        BerryLane x = Due.lane(LAW + "b0 0 0 0 300 0;p0 1 0 0;");
        for (int t : new int[] {LEAST, -1, 0, 25, 26, MOST}) {
            Due.is("t " + t, x.best(0, t, NONE, 0), OUTSIDE);
            Due.is("t " + t + ", 0", x.best(0, t, 0, 0), OUTSIDE);
        }
        for (int t : new int[] {1, 2, 23, 24}) {
            way(x, t, t, 0, t);
        }
    }

    private static void bestTimeIsJustEnough() {
        Due.sentence("in t MOMENTS .. he goes from BUSH to BUSH .. takes one HANDFUL there or more");
        BerryLane ten = Due.lane(LAW + "b10 0 0 0 300 0;p0 3 0 0;");
        way(ten, 1, 0);
        way(ten, 2, 3, 0, 1);
        way(ten, 3, 6, 0, 2);
        BerryLane eleven = Due.lane(LAW + "b11 0 0 0 300 0;p0 3 0 0;");
        way(eleven, 2, 0);
        way(eleven, 3, 3, 0, 1);
        BerryLane wasps = Due.lane(LAW + "b0 0 3 0 300 0;p0 3 0 0;");
        way(wasps, 1, 0);
        way(wasps, 2, 3, 0, 1);
        way(wasps, 3, 3, 0, 1);
        way(wasps, 4, 6, 0, 2);
        way(wasps, 23, 33, 0, 11);
        way(wasps, 24, 36, 0, 12);
        BerryLane far = Due.lane(LAW + "b99 1 0 0 300 0;p0 3 0 0;");
        way(far, 11, 0);
        way(far, 12, 3, 0, 1);
        // 5 here, then 1 there: 1 to go and 1 to take
        BerryLane two = Due.lane(LAW + "b0 0 0 0 5 0;b10 0 0 0 300 0;p0 5 0 0;");
        way(two, 2, 5, 1, 1);
        way(two, 3, 10, 1, 2);
        BerryLane on = Due.lane(LAW + "b0 0 0 0 1 0;b10 0 0 0 1 0;p0 5 0 0;");
        way(on, 1, 1, 0, 1);
        way(on, 2, 1, 0, 1);
        way(on, 3, 2, 0, 1, 1, 1);
    }

    private static void bestWaysFarApart() {
        Due.sentence("he goes from BUSH to BUSH .. the most that comes to the CAN");
        // each gives 2, 2, 2, 1, 1, 1, 1; a handful by the wasps and the way to the next one take 2 each
        BerryLane x = Due.lane(LAW + "b0 0 3 0 10 0;b20 0 0 0 10 0;b40 0 0 0 10 0;p0 20 0 0;");
        way(x, 16, 18, 0, 1, 1, 3, 2, 7);
        way(x, 18, 20, 0, 1, 1, 5, 2, 7);
        way(x, 24, 26, 0, 3, 1, 7, 2, 7);
        way(x, 10, 12, 1, 3, 2, 3);
        // there and back: 50 yards between, 10 and 40 from where he is
        BerryLane back = Due.lane(LAW + "b90 0 0 0 300 0;b40 0 0 0 6 0;p50 4 0 0;");
        way(back, 5, 5, 1, 4);
        way(back, 6, 8, 0, 2);
        way(back, 8, 16, 0, 4);
        way(back, 9, 20, 0, 5);
        // 4, 3, 2, 2, 1 .. where he is, 3, 2, 2, 1 .. ten yards on
        BerryLane on = Due.lane(LAW + "b0 0 0 0 1 0;b99 0 0 0 16 0;b89 0 0 0 11 0;p99 5 0 0;");
        way(on, 4, 11, 1, 4);
        way(on, 6, 14, 1, 2, 2, 3);
        BerryLane wasps = Due.lane(LAW + "b30 0 3 0 300 0;b40 0 3 0 300 0;b50 0 0 0 5 0;p30 6 0 0;");
        way(wasps, 8, 24, 0, 4);
        way(wasps, 9, 24, 0, 1, 1, 3);
    }

    private static void bestEachBushOnce() {
        Due.sentence("to each at most one time");
        // 2, 2, 2, 1 .. at the one, 1 at the other: (0: 1, 1: 1, 0: 2) would come first, if one could come again
        BerryLane x = Due.lane(LAW + "b0 0 0 0 10 0;b0 0 0 0 1 0;p0 20 0 0;");
        way(x, 3, 6, 0, 3);
        way(x, 4, 7, 0, 3, 1, 1);
        way(x, 8, 11, 0, 7, 1, 1);
        way(x, 24, 11, 0, 7, 1, 1);
    }

    private static void bestNoneMoreAhead() {
        Due.sentence("none more ahead of all");
        BerryLane nothing = Due.lane(LAW + "b0 0 0 0 0 0;b0 0 0 9 0 9;p0 5 0 0;");
        way(nothing, 24, 0);
        BerryLane eaten = Due.lane(LAW + "b0 0 0 0 300 0;p0 9 9 0;");
        way(eaten, 24, 0);
        BerryLane then = Due.lane(LAW + "b0 0 0 0 5 0;b0 0 0 0 0 0;p0 5 0 0;");
        way(then, 5, 5, 0, 5);
        way(then, 6, 5, 0, 5);
        way(then, 24, 5, 0, 5);
        way(Due.lane(LAW + "p0 5 0 0;"), 24, 0);
    }

    private static void bestLesserBushAhead() {
        Due.sentence("then the lesser BUSH");
        BerryLane alike = Due.lane(LAW + "b0 0 0 0 5 0;b0 0 0 0 5 0;p0 5 0 0;");
        way(alike, 1, 1, 0, 1);
        BerryLane more = Due.lane(LAW + "b0 0 0 0 5 0;b0 0 0 0 6 0;p0 5 0 0;");
        way(more, 1, 2, 1, 1);
        // a handful of nothing at the lesser one comes ahead, if there is a MOMENT for it
        BerryLane empty = Due.lane(LAW + "b0 0 0 0 0 0;b0 0 0 0 5 0;p0 5 0 0;");
        way(empty, 4, 4, 1, 4);
        way(empty, 5, 5, 1, 5);
        way(empty, 6, 5, 0, 1, 1, 5);
        BerryLane waspy = Due.lane(LAW + "b0 0 3 0 0 0;b0 0 0 0 5 0;p0 5 0 0;");
        way(waspy, 6, 5, 1, 5);
        way(waspy, 7, 5, 0, 1, 1, 5);
    }

    private static void bestFewerHandfulsAhead() {
        Due.sentence("at each fewer HANDFULS first");
        BerryLane x = Due.lane(LAW + "b0 0 0 0 300 0;b0 0 0 0 300 0;b0 0 0 0 300 0;p0 5 0 0;");
        way(x, 2, 10, 0, 1, 1, 1);
        way(x, 3, 15, 0, 1, 1, 1, 2, 1);
        way(x, 4, 20, 0, 1, 1, 1, 2, 2);
        // no more than are of use
        BerryLane few = Due.lane(LAW + "b0 0 0 0 2 0;p0 5 0 0;");
        way(few, 2, 2, 0, 2);
        way(few, 3, 2, 0, 2);
    }

    private static void bestNumbersOfBushes() {
        Due.sentence("i = NONE how much, else what = 0 the i-th BUSH, 1 HANDFULS there (NONE: not so many)");
        BerryLane six = Due.lane(LAW + "b0 0 0 0 5 0;".repeat(6) + "p0 1 0 0;");
        way(six, 6, 6, 0, 1, 1, 1, 2, 1, 3, 1, 4, 1, 5, 1);
        way(six, 5, 5, 0, 1, 1, 1, 2, 1, 3, 1, 4, 1);
        way(six, 7, 7, 0, 1, 1, 1, 2, 1, 3, 1, 4, 1, 5, 2);
        for (int i : new int[] {LEAST, -2, 6, 7, 24, MOST}) {
            Due.is("best(0, 6, " + i + ", 0)", six.best(0, 6, i, 0), NONE);
            Due.is("best(0, 6, " + i + ", 1)", six.best(0, 6, i, 1), NONE);
        }
    }

    private static void bestWhat() {
        Due.sentence("what = 0 the i-th BUSH, 1 HANDFULS there .. UNKNOWN, OUTSIDE");
        BerryLane x = Due.lane(LAW + "b0 0 0 0 5 0;b0 0 0 0 300 0;p0 9 0 0;");
        Due.is("what 0", x.best(0, 3, 0, 0), 1);
        Due.is("what 1", x.best(0, 3, 0, 1), 3);
        for (int what : new int[] {LEAST, -1, 2, MOST}) {
            Due.is("what " + what, x.best(0, 3, 0, what), OUTSIDE);
            Due.is("what " + what + ", not so many", x.best(0, 3, 9, what), OUTSIDE);
        }
    }

    // ---- who where

    private static void stand(String name, BerryLane x, int h, int... due) {
        Due.is(name + ": how much", x.where(h, NONE), due[0]);
        for (int p = 0; p + 1 < due.length; p++) {
            Due.is(name + ": BUSH of " + p, x.where(h, p), due[p + 1]);
        }
    }

    private static void whereHandfuls() {
        Due.sentence("WHO WHERE for h HANDFULS each (1 .. 20)");
        BerryLane x = Due.lane(LAW + "b0 0 0 0 300 0;p0 1 0 0;");
        for (int h : new int[] {LEAST, -1, 0, 21, 22, MOST}) {
            Due.is("h " + h, x.where(h, NONE), OUTSIDE);
            Due.is("h " + h + ", of 0", x.where(h, 0), OUTSIDE);
            Due.is("h " + h + ", without a lane", new BerryLane().where(h, NONE), OUTSIDE);
        }
        for (int h : new int[] {1, 2, 19, 20}) {
            stand("h " + h, x, h, h, 0);
        }
        BerryLane few = Due.lane(LAW + "b0 0 0 0 19 0;p0 1 0 0;");
        stand("20 of 19", few, 20, 19, 0);
        stand("19 of 19", few, 19, 19, 0);
        for (int p : new int[] {LEAST, -2, 1, 4, MOST}) {
            Due.is("where(1, " + p + ")", x.where(1, p), UNKNOWN);
            Due.is("where(0, " + p + ")", x.where(0, p), UNKNOWN);
        }
    }

    private static void whereUnlikeBushes() {
        Due.sentence("PICKERS at unlike BUSHES");
        BerryLane x = Due.lane(LAW + "b0 0 0 0 0 0;b0 0 0 0 300 0;p0 5 0 0;p0 6 0 0;");
        stand("two at two, one of them empty", x, 1, 6, 0, 1);
        BerryLane four = Due.lane(LAW + "b0 0 0 0 300 0;b0 0 0 0 16 0;b0 0 0 0 11 0;b0 0 0 0 6 0;p0 2 0 0;p0 3 0 0;p0 4 0 0;p0 5 0 0;");
        stand("four at four", four, 1, 14, 3, 2, 1, 0);
        BerryLane six = Due.lane(LAW + "b0 0 0 0 0 0;".repeat(5) + "b0 0 0 0 300 0;p0 1 0 0;p0 9 0 0;");
        stand("two at six", six, 2, 18, 0, 5);
    }

    private static void whereNoneIfFewer() {
        Due.sentence("(or none, if there are fewer BUSHES)");
        stand("as many: each has one, though it brings nothing",
                Due.lane(LAW + "b0 0 0 0 0 0;b0 0 0 0 0 0;p0 5 0 0;p0 5 0 0;"), 1, 0, 0, 1);
        stand("one fewer: one has none",
                Due.lane(LAW + "b0 0 0 0 300 0;p0 5 0 0;p0 6 0 0;"), 1, 6, NONE, 0);
        stand("two fewer",
                Due.lane(LAW + "b0 0 0 0 300 0;p0 5 0 0;p0 6 0 0;p0 4 0 0;"), 1, 6, NONE, 0, NONE);
        stand("no BUSHES at all", Due.lane(LAW + "p0 5 0 0;p0 6 0 0;"), 1, 0, NONE, NONE);
        Due.is("no PICKERS", Due.lane(LAW + "b0 0 0 0 300 0;").where(1, NONE), 0);
        Due.is("no PICKERS: of 0", Due.lane(LAW + "b0 0 0 0 300 0;").where(1, 0), UNKNOWN);
    }

    private static void whereOfLikeOnes() {
        Due.sentence("of like ones the first (PICKER by PICKER the lesser BUSH, none last)");
        stand("all alike", Due.lane(LAW + "b0 0 0 0 300 0;".repeat(4) + "p0 5 0 0;".repeat(3)), 1, 15, 0, 1, 2);
        stand("none comes last", Due.lane(LAW + "b0 0 0 0 300 0;p0 5 0 0;p0 5 0 0;p0 5 0 0;"), 1, 5, 0, NONE, NONE);
        stand("nobody brings anything", Due.lane(LAW + "b0 0 0 0 9 0;b0 0 0 0 9 0;p0 5 9 0;p0 5 9 0;p0 5 9 0;"), 3, 0, 0, 1, NONE);
        stand("the lesser one for the first one", Due.lane(LAW + "b0 0 0 0 300 0;b0 0 0 0 5 0;b0 0 0 0 300 0;p0 5 0 0;p0 5 0 0;"), 1, 10, 0, 2);
    }

    private static void whereWithoutWays() {
        Due.sentence("without WAYS");
        stand("the far one", Due.lane(LAW + "b0 0 0 0 30 0;b99 1 0 0 31 0;p0 9 0 0;"), 1, 7, 1);
        stand("no MOMENTS by wasps", Due.lane(LAW + "b0 0 3 0 300 0;b0 0 0 0 25 0;p0 9 0 0;"), 20, 180, 0);
    }

    // ---- rivals

    private static void settle(String name, BerryLane x, int h, int turns, int a, int b) {
        Due.is(name + ": turns", x.rivals(0, 1, h, 0), turns);
        Due.is(name + ": a", x.rivals(0, 1, h, 1), a);
        Due.is(name + ": b", x.rivals(0, 1, h, 2), b);
    }

    private static void rivalsHandfuls() {
        Due.sentence("choose a BUSH each (0 at first) for h HANDFULS (1 .. 20)");
        // one goes off as soon as there are more handfuls than the first bush has for two
        BerryLane x = Due.lane(LAW + "b0 0 0 0 38 0;b0 0 0 0 19 0;p0 1 0 0;p0 1 0 0;");
        for (int h : new int[] {LEAST, -1, 0, 21, 22, MOST}) {
            Due.is("h " + h, x.rivals(0, 1, h, 0), OUTSIDE);
        }
        settle("h 1", x, 1, 0, 0, 0);
        settle("h 19", x, 19, 0, 0, 0);
        BerryLane y = Due.lane(LAW + "b0 0 0 0 38 0;b0 0 0 0 20 0;p0 1 0 0;p0 1 0 0;");
        settle("h 19", y, 19, 0, 0, 0);
        settle("h 20", y, 20, 1, 1, 0);
    }

    private static void rivalsWhat() {
        Due.sentence("what = 0 turns, 1 where a is, 2 where b is");
        BerryLane x = Due.lane(LAW + "b0 0 0 0 16 0;b0 0 0 0 16 0;p0 5 0 0;p0 5 0 0;");
        settle("who comes second goes off", x, 1, 1, 0, 1);
        for (int what : new int[] {LEAST, -1, 3, MOST}) {
            Due.is("what " + what, x.rivals(0, 1, 1, what), OUTSIDE);
        }
    }

    private static void rivalsTwice() {
        Due.sentence("UNKNOWN (a BUSH, PICKER, IMAGE that there is not; one twice");
        BerryLane x = Due.lane(LAW + "b0 0 0 0 16 0;p0 5 0 0;p0 5 0 0;p0 5 0 0;");
        for (int p = 0; p < 3; p++) {
            Due.is("rivals(" + p + ", " + p + ")", x.rivals(p, p, 1, 0), UNKNOWN);
            Due.is("rivals(" + p + ", next)", x.rivals(p, (p + 1) % 3, 1, 0), 0);
        }
        for (int p : new int[] {LEAST, -1, 3, 4, MOST}) {
            Due.is("rivals(" + p + ", 0)", x.rivals(p, 0, 1, 0), UNKNOWN);
            Due.is("rivals(0, " + p + ")", x.rivals(0, p, 1, 0), UNKNOWN);
            Due.is("rivals(" + p + ", " + p + ")", x.rivals(p, p, 1, 0), UNKNOWN);
        }
        Due.is("rivals(2, 2, 0, 3)", x.rivals(2, 2, 0, 3), UNKNOWN);
    }

    private static void rivalsNeedBushes() {
        Due.sentence("UNKNOWN, OUTSIDE, NOT: no BUSHES.");
        BerryLane bare = Due.lane(LAW + "p0 5 0 0;p0 5 0 0;");
        for (int what = 0; what < 3; what++) {
            Due.is("no BUSHES, what " + what, bare.rivals(0, 1, 1, what), NOT);
        }
        Due.is("no BUSHES, h 0", bare.rivals(0, 1, 0, 0), OUTSIDE);
        Due.is("no BUSHES, h 21", bare.rivals(0, 1, 21, 0), OUTSIDE);
        Due.is("no BUSHES, what 3", bare.rivals(0, 1, 1, 3), OUTSIDE);
        Due.is("no BUSHES, one twice", bare.rivals(1, 1, 1, 0), UNKNOWN);
        settle("one BUSH", Due.lane(LAW + "b0 0 0 0 0 0;p0 5 0 0;p0 5 0 0;"), 20, 0, 0, 0);
    }

    private static void rivalsTakeByTurns() {
        Due.sentence("taken by turns, a first, if both are at one");
        // of 11: 3 for a, then of 8 2 for b; alone at the other one there are 2 of 10
        settle("b has 2 here, 2 there", Due.lane(LAW + "b0 0 0 0 11 0;b0 0 0 0 10 0;p0 9 0 0;p0 9 0 0;"), 1, 0, 0, 0);
        // of 11 3, 8: 2, 6: 2, 4: 1: a has 5, b has 3; alone at the other one: 3 and 2 of 11
        settle("a has 5 here, 5 there", Due.lane(LAW + "b0 0 0 0 11 0;b0 0 0 0 11 0;p0 9 0 0;p0 9 0 0;"), 2, 1, 0, 1);
        settle("b has 3 here, 3 there", Due.lane(LAW + "b0 0 0 0 11 0;b0 0 0 0 7 0;p0 9 0 0;p0 9 0 0;"), 2, 0, 0, 0);
        settle("b has 3 here, 4 there", Due.lane(LAW + "b0 0 0 0 11 0;b0 0 0 0 8 0;p0 9 0 0;p0 9 0 0;"), 2, 1, 0, 1);
    }

    private static void rivalsOfLikeOnes() {
        Due.sentence("(of like ones the least)");
        settle("nothing anywhere", Due.lane(LAW + "b0 0 0 0 0 0;b0 0 0 0 0 0;p0 5 0 0;p0 5 0 0;"), 5, 0, 0, 0);
        settle("two like ones behind a lesser one", Due.lane(LAW + "b0 0 0 0 0 0;b0 0 0 0 300 0;b0 0 0 0 300 0;p0 5 0 0;p0 5 0 0;"), 1, 2, 1, 1);
        settle("all is eaten", Due.lane(LAW + "b0 0 0 0 5 0;b0 0 0 0 300 0;p0 5 9 0;p0 5 0 0;"), 3, 1, 0, 1);
    }

    /**
     * Sharing never gives one more, so each leaves the bush that is best for him only while the
     * other one is at it: more than four turns never change anything, and the 16th is never met.
     */
    private static void rivalsTurns() {
        Due.sentence("By turns, a first, each takes the BUSH by which he has most, the other one staying .. till both stay");
        settle("no turn", Due.lane(LAW + "b0 0 0 0 300 0;b0 0 0 0 1 0;p0 5 0 0;p0 5 0 0;"), 5, 0, 0, 0);
        settle("one turn, of a", Due.lane(LAW + "b0 0 0 0 5 0;b0 0 0 0 5 0;p0 5 0 0;p0 5 0 0;"), 5, 1, 1, 0);
        settle("one turn, of b", Due.lane(LAW + "b0 0 0 0 16 0;b0 0 0 0 16 0;p0 5 0 0;p0 5 0 0;"), 1, 1, 0, 1);
        settle("two turns", Due.lane(LAW + "b0 0 0 0 5 0;b0 0 0 0 300 0;p0 5 0 0;p0 5 0 0;"), 5, 2, 1, 1);
        settle("three turns", Due.lane(LAW + "b0 0 1 0 29 0;b0 0 1 0 1 0;b0 0 0 0 32 0;p0 18 1 1;p0 4 2 0;"), 4, 3, 0, 2);
        settle("six bushes", Due.lane(LAW + "b0 0 0 0 5 0;".repeat(5) + "b0 0 0 0 300 0;p0 5 0 0;p0 5 0 0;"), 20, 2, 5, 5);
        settle("four turns", Due.lane(LAW + "b0 0 0 0 21 0;b0 0 1 0 31 0;b0 0 0 0 8 0;b0 0 1 0 23 0;p0 8 0 0;p0 6 1 1;"), 8, 4, 0, 1);
    }

    // ---- again

    private static void again(String name, BerryLane x, int n, int days, int much) {
        Due.is(name + ": in how many days of " + n, x.again(0, n, 0), days);
        Due.is(name + ": how much of " + n, x.again(0, n, 1), much);
    }

    private static void againDays() {
        Due.sentence("in how many days (0 to n, n 1 .. 30, dry ones) there is most RIPE");
        // 1 of RED a day: 1, 2, 3, 4; then 3, 3, 3 ..
        BerryLane x = Due.lane("l4 4 1;b0 0 0 4 0 0;");
        for (int n : new int[] {LEAST, -1, 0, 31, 32, MOST}) {
            Due.is("n " + n, x.again(0, n, 0), OUTSIDE);
        }
        again("to the fourth", x, 1, 1, 1);
        again("to the fourth", x, 3, 3, 3);
        again("to the fourth", x, 4, 4, 4);
        again("to the fourth", x, 5, 4, 4);
        again("to the fourth", x, 29, 4, 4);
        again("to the fourth", x, 30, 4, 4);
        // no lane has a later one: on the 27th day
        BerryLane late = Due.lane("l20 20 1;b0 0 2 175 0 0;");
        int most = 0;
        int day = 0;
        BerryLane then = Due.lane("l20 20 1;b0 0 2 175 0 0;");
        for (int n = 1; n <= 30; n++) {
            int ripe = then.day(1, false);
            day = ripe > most ? n : day;
            most = Math.max(most, ripe);
            again("late", late, n, day, most);
        }
        Due.is("the 27th", day, 27);
        again("today", Due.lane("l1 1 1;b0 0 0 299 300 0;"), 30, 0, 300);
        again("tomorrow", Due.lane("l1 20 1;b0 0 0 300 1 0;"), 30, 1, 301);
    }

    private static void againOfLikeOnes() {
        Due.sentence("of like ones the least; how much");
        again("the same on all days", Due.lane(LAW + "b0 0 0 0 19 0;"), 30, 0, 19);
        again("the same from tomorrow on", Due.lane("l1 20 1;b0 0 0 5 0 0;"), 30, 1, 5);
        again("today like tomorrow", Due.lane("l1 1 1;b0 0 0 300 300 0;"), 30, 0, 300);
        again("nothing at all", Due.lane(LAW + "b0 0 0 0 0 0;"), 30, 0, 0);
    }

    private static void againWhat() {
        Due.sentence("AGAIN: what = 0 how many days, 1 how much. UNKNOWN, OUTSIDE.");
        BerryLane x = Due.lane("l1 20 1;b0 0 0 5 0 0;");
        for (int what : new int[] {LEAST, -1, 2, MOST}) {
            Due.is("what " + what, x.again(0, 30, what), OUTSIDE);
        }
        Due.is("what 0", x.again(0, 30, 0), 1);
        Due.is("what 1", x.again(0, 30, 1), 5);
    }

    // ---- odds

    /** Dry days change nothing here; by rainy ones RIPE is 15, 12, 9, 7, 6, 5, 4, 3. */
    private static BerryLane nineteen() {
        return Due.lane(LAW + "b0 0 0 0 19 0;");
    }

    private static void oddsBounds() {
        Due.sentence("has m RIPE or more (0 .. 999) in n days (1 .. 8), each being rainy by q of a hundred .. (q 0 .. 100)");
        BerryLane x = nineteen();
        for (int m : new int[] {LEAST, -1, 1000, 1001, MOST}) {
            Due.is("m " + m, x.odds(0, m, 1, 50), OUTSIDE);
        }
        Due.is("m 0", x.odds(0, 0, 1, 50), BILLION);
        Due.is("m 1", x.odds(0, 1, 1, 50), BILLION);
        Due.is("m 998", x.odds(0, 998, 1, 50), 0);
        Due.is("m 999", x.odds(0, 999, 1, 50), 0);
        for (int n : new int[] {LEAST, -1, 0, 9, 10, 32, MOST}) {
            Due.is("n " + n, x.odds(0, 1, n, 50), OUTSIDE);
        }
        int[] dry = {500000000, 250000000, 125000000, 62500000, 31250000, 15625000, 7812500, 3906250};
        for (int n = 1; n <= 8; n++) {
            Due.is("n " + n, x.odds(0, 19, n, 50), dry[n - 1]);
        }
        for (int q : new int[] {LEAST, -1, 101, 102, MOST}) {
            Due.is("q " + q, x.odds(0, 1, 1, q), OUTSIDE);
        }
        Due.is("q 0", x.odds(0, 19, 8, 0), BILLION);
        Due.is("q 1", x.odds(0, 19, 1, 1), 990000000);
        Due.is("q 99", x.odds(0, 19, 1, 99), 10000000);
        Due.is("q 100", x.odds(0, 19, 8, 100), 0);
        Due.is("q 100, all rainy", x.odds(0, 3, 8, 100), BILLION);
        Due.is("q 100, all rainy", x.odds(0, 4, 8, 100), 0);
    }

    private static void oddsSoManyOrMore() {
        Due.sentence("ODDS that a BUSH has m RIPE or more");
        BerryLane x = nineteen();
        int[] ripe = {19, 15, 12, 9, 7, 6, 5, 4, 3};
        int[] choose = {1, 8, 28, 56, 70, 56, 28, 8, 1};
        int rows = 0;
        for (int rainy = 0; rainy <= 8; rainy++) {
            Due.is((ripe[rainy] + 1) + " or more", x.odds(0, ripe[rainy] + 1, 8, 50), rows * 3906250);
            rows += choose[rainy];
            Due.is(ripe[rainy] + " or more", x.odds(0, ripe[rainy], 8, 50), rows * 3906250);
        }
        Due.is("of one day, as it is", x.odds(0, 15, 1, 30), BILLION);
        Due.is("of one day, one more", x.odds(0, 16, 1, 30), 700000000);
    }

    private static void oddsAreCut() {
        Due.sentence("each row of days times q / 100 or the rest (day by day: the rainy part cut, the dry one what is left)");
        BerryLane x = nineteen();
        // by 1 of a hundred: 10000000, 100000, 1000, 10, then 0 of 10
        Due.is("four rainy ones", x.odds(0, 8, 4, 1), BILLION - 10);
        Due.is("five rainy ones", x.odds(0, 7, 5, 1), BILLION);
        // all dry by 99: 10000000, 100000, 1000, 10, then 10 less 9, 1 less 0 ..
        int[] left = {10000000, 100000, 1000, 10, 1, 1, 1, 1};
        for (int n = 1; n <= 8; n++) {
            Due.is("all dry, " + n, x.odds(0, 19, n, 99), left[n - 1]);
        }
        long dry = BILLION;
        long rainy = BILLION;
        for (int n = 1; n <= 8; n++) {
            dry -= dry * 37 / 100;
            rainy = rainy * 37 / 100;
            int[] ripe = {15, 12, 9, 7, 6, 5, 4, 3};
            Due.is("all dry by 37, " + n, x.odds(0, 19, n, 37), dry);
            Due.is("not all rainy by 37, " + n, x.odds(0, ripe[n - 1] + 1, n, 37), BILLION - rainy);
            Due.is("any, " + n, x.odds(0, 0, n, 37), BILLION);
        }
    }

    private static void oddsOfDryAndRainy() {
        Due.sentence("(day by day");
        // dry, rainy: 30, 29, 21; rainy, dry: 22, 22
        BerryLane x = Due.lane("l4 5 2;b10 0 0 20 30 6;");
        Due.is("rainy, dry comes to 22", x.odds(0, 22, 2, 10), 810000000 + 90000000);
        Due.is("dry, rainy comes to 21", x.odds(0, 21, 2, 10), 810000000 + 180000000);
        Due.is("all dry comes to 28", x.odds(0, 28, 2, 10), 810000000);
        Due.is("nothing comes to 29", x.odds(0, 29, 2, 10), 0);
        // a shaded one, too: 1 of 8 of 20 is 3
        BerryLane shaded = Due.lane("l4 5 2;b10 0 2 20 3 6;");
        Due.is("shaded, dry: 6", shaded.odds(0, 6, 1, 10), 900000000);
        Due.is("shaded, rainy: 5", shaded.odds(0, 5, 1, 10), BILLION);
    }

    // ---- for whom a stick

    private static void whomMoments() {
        Due.sentence("STICK (t 1 .. 24)");
        BerryLane x = Due.lane(LAW + "b0 0 1 0 300 0;p0 2 0 0;");
        for (int t : new int[] {LEAST, -1, 0, 25, 26, MOST}) {
            Due.is("t " + t, x.whom(t, 0), OUTSIDE);
            Due.is("t " + t + ", nobody", new BerryLane().whom(t, 0), OUTSIDE);
        }
        for (int t : new int[] {1, 2, 23, 24}) {
            Due.is("who in " + t, x.whom(t, 0), 0);
            Due.is("how much in " + t, x.whom(t, 1), t);
        }
    }

    private static void whomWhat() {
        Due.sentence("what = 0 who, 1 how much more");
        BerryLane x = Due.lane(LAW + "b0 0 1 0 300 0;p0 1 0 1;p0 2 0 0;");
        Due.is("what 0", x.whom(5, 0), 1);
        Due.is("what 1", x.whom(5, 1), 5);
        for (int what : new int[] {LEAST, -1, 2, MOST}) {
            Due.is("what " + what, x.whom(5, what), OUTSIDE);
            Due.is("what " + what + ", nobody", new BerryLane().whom(5, what), OUTSIDE);
        }
    }

    private static void whomReachesHigh() {
        Due.sentence("(0 more, if he does)");
        BerryLane x = Due.lane(LAW + "b0 0 1 0 300 0;p0 20 0 1;p0 3 0 0;");
        Due.is("who does not", x.whom(1, 0), 1);
        Due.is("how much", x.whom(1, 1), 2);
        x.stick(1, true);
        Due.is("both do", x.whom(1, 0), 0);
        Due.is("how much", x.whom(1, 1), 0);
        BerryLane low = Due.lane(LAW + "b0 0 0 0 300 0;p0 3 0 1;p0 3 0 0;");
        Due.is("nothing is high", low.whom(24, 0), 0);
        Due.is("nothing is high: how much", low.whom(24, 1), 0);
        // he eats what he would have more
        BerryLane eats = Due.lane(LAW + "b0 0 1 0 300 0;p0 9 9 0;p0 2 0 0;");
        Due.is("he eats it all", eats.whom(1, 0), 1);
    }

    private static void whomOfLikeOnes() {
        Due.sentence("of like ones the least");
        BerryLane x = Due.lane(LAW + "b0 0 1 0 300 0;p0 4 0 0;p0 6 0 0;p0 6 0 0;p0 5 0 0;");
        Due.is("who", x.whom(1, 0), 1);
        Due.is("how much", x.whom(1, 1), 3);
        Due.is("5 less 2 is as much as 6 less 3", Due.lane(LAW + "b0 0 1 0 300 0;p0 5 0 0;p0 6 0 0;").whom(1, 0), 0);
    }

    private static void whomWithoutPickers() {
        Due.sentence("NONE without PICKERS");
        BerryLane x = Due.lane(LAW + "b0 0 1 0 300 0;");
        BerryLane one = Due.lane(LAW + "p0 1 0 1;");
        for (int what = 0; what < 2; what++) {
            Due.is("nobody, what " + what, x.whom(1, what), NONE);
            Due.is("no lane, what " + what, new BerryLane().whom(24, what), NONE);
            Due.is("one, no BUSHES, what " + what, one.whom(24, what), 0);
        }
    }

    private static void triedOfNobody() {
        Due.sentence("UNKNOWN (a BUSH, PICKER, IMAGE that there is not");
        BerryLane x = Due.lane(LAW + "b0 0 0 0 9 0;b0 0 0 0 9 0;p0 9 0 0;p0 9 0 0;p0 9 0 0;");
        for (int b : new int[] {LEAST, -1, 2, 5, 6, MOST}) {
            Due.is("length(0, " + b + ", 0)", x.length(0, b, 0), UNKNOWN);
            Due.is("again(" + b + ", 1, 0)", x.again(b, 1, 0), UNKNOWN);
            Due.is("odds(" + b + ", 1, 1, 1)", x.odds(b, 1, 1, 1), UNKNOWN);
        }
        for (int p : new int[] {LEAST, -1, 3, 4, MOST}) {
            Due.is("length(" + p + ", 0, 0)", x.length(p, 0, 0), UNKNOWN);
            Due.is("best(" + p + ", 1, NONE, 0)", x.best(p, 1, NONE, 0), UNKNOWN);
        }
        Due.is("length(2, 1, 0)", x.length(2, 1, 0), 7);
        Due.is("best(2, 1, NONE, 0)", x.best(2, 1, NONE, 0), 2);
        Due.is("again(1, 1, 1)", x.again(1, 1, 1), 9);
        Due.is("odds(1, 9, 1, 0)", x.odds(1, 9, 1, 0), BILLION);
        Due.is("length(3, 0, 21)", x.length(3, 0, 21), UNKNOWN);
        Due.is("length(0, 2, -1)", x.length(0, 2, -1), UNKNOWN);
        Due.is("best(3, 0, 0, 2)", x.best(3, 0, 0, 2), UNKNOWN);
        Due.is("again(2, 0, 2)", x.again(2, 0, 2), UNKNOWN);
        Due.is("odds(2, -1, 0, 101)", x.odds(2, -1, 0, 101), UNKNOWN);
    }
}
