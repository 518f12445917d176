/** Promises 16 to 22: length, best way, who where, rivals, when again, odds, for whom a stick. */
public final class TriedTest {
    private static final int NONE = BerryLane.NONE;
    private static final int UNKNOWN = BerryLane.UNKNOWN;
    private static final int OUTSIDE = BerryLane.OUTSIDE;
    private static final int NOT = BerryLane.NOT;

    public static void main(String[] args) {
        lengths();
        bestWays();
        bestWaysAlike();
        bestWayRefused();
        whoWhere();
        whoWhereAlike();
        rivalsMove();
        rivalsRefused();
        whenAgain();
        oddsOfRain();
        sticksFor();
        nothingChanges();
        Due.end("TriedTest");
    }

    private static void lengths() {
        BerryLane x = Due.lane("l1 1 1;b0 0 0 0 300 0;b90 1 3 0 60 0;b0 0 1 0 60 0;p0 1 0 0;p0 12 0 0;p0 20 9 0;c1;");
        Due.is("60 at most", x.length(0, 0, 0), 60);
        Due.is("as much as the rate is not more", x.length(0, 0, 1), 0);
        Due.is("wasps, 3 a moment", x.length(1, 1, 3), 3);
        Due.is("wasps, 4 a moment", x.length(1, 1, 4), 2);
        Due.is("wasps, 6 a moment", x.length(1, 1, 6), 0);
        // 12 of 60, 12 at most: 6 (54), 11: 5 (49), 10: 5 (44), 9: 4
        Due.is("half handfuls, 4 a moment", x.length(1, 2, 4), 3);
        // 20 of 300: 11 till (r + 4) / 5 < 20, thus r < 96: from 300 to 80 in 11, then 16: 7, 64: 13: 4
        Due.is("eating 9, 7 a moment", x.length(2, 0, 7), 11);
        Due.is("eating 9, 6 a moment", x.length(2, 0, 6), 12);
        Due.is("rate 20", x.length(2, 0, 20), 0);
        Due.is("rate 21", x.length(2, 0, 21), OUTSIDE);
        Due.is("rate -1", x.length(2, 0, -1), OUTSIDE);
        Due.is("no such picker", x.length(3, 0, 21), UNKNOWN);
        Due.is("no such bush", x.length(0, 3, 21), UNKNOWN);
        Due.is("ripe stays", x.bush(0, 4), 300);
    }

    private static void way(BerryLane x, int p, int t, int... due) {
        String call = "best(" + p + ", " + t + ", ";
        Due.is(call + "NONE)", x.best(p, t, NONE, 0), due[0]);
        int stops = (due.length - 1) / 2;
        for (int i = 0; i < stops; i++) {
            Due.is(call + i + ", 0)", x.best(p, t, i, 0), due[1 + 2 * i]);
            Due.is(call + i + ", 1)", x.best(p, t, i, 1), due[2 + 2 * i]);
        }
        Due.is(call + stops + ", 0)", x.best(p, t, stops, 0), NONE);
        Due.is(call + stops + ", 1)", x.best(p, t, stops, 1), NONE);
    }

    private static void bestWays() {
        BerryLane x = Due.lane("l4 5 2;b10 0 0 20 30 6;b25 1 1 9 40 0;p10 8 2 0;c1;");
        way(x, 0, 1, 4, 0, 1);
        way(x, 0, 3, 9, 0, 3);
        way(x, 0, 10, 16, 0, 3, 1, 5);
        BerryLane far = Due.lane("l1 1 1;b99 1 0 0 300 0;b0 0 3 0 300 0;p0 10 0 0;");
        way(far, 0, 1, 0);
        way(far, 0, 2, 10, 1, 1);
        way(far, 0, 3, 10, 1, 1);
        // to go costs 11, behind that a handful costs 1 and not 2
        way(far, 0, 22, 110, 0, 11);
        way(far, 0, 24, 130, 0, 13);
        BerryLane other = Due.lane("l1 1 1;b10 0 0 0 5 0;b10 0 0 0 300 0;p10 5 0 0;");
        way(other, 0, 4, 20, 1, 4);
        far.go(0, 0);
        way(far, 0, 1, 10, 0, 1);
    }

    private static void bestWaysAlike() {
        BerryLane empty = Due.lane("l1 1 1;b0 0 0 0 0 0;p0 5 0 0;");
        way(empty, 0, 24, 0);
        BerryLane eaten = Due.lane("l1 1 1;b0 0 0 0 300 0;p0 5 9 0;");
        way(eaten, 0, 24, 0);
        BerryLane bare = Due.lane("l1 1 1;p0 5 0 0;");
        way(bare, 0, 24, 0);
        BerryLane same = Due.lane("l1 1 1;b0 0 0 0 300 0;b0 0 0 0 300 0;p0 5 0 0;");
        // one bush is enough, but (0, 1 handful, then 1) comes ahead of (0, more handfuls)
        way(same, 0, 3, 15, 0, 1, 1, 2);
        way(same, 0, 1, 5, 0, 1);
        BerryLane over = Due.lane("l1 1 1;b0 0 0 0 0 0;b0 0 0 0 5 0;p0 5 0 0;");
        // a handful of nothing at the lesser bush comes ahead, where there is the time for it
        way(over, 0, 1, 1, 1, 1);
        way(over, 0, 6, 5, 0, 1, 1, 5);
        way(over, 0, 5, 5, 1, 5);
    }

    private static void bestWayRefused() {
        BerryLane x = Due.lane("l1 1 1;b0 0 0 0 300 0;p0 5 0 0;");
        Due.is("t 0", x.best(0, 0, NONE, 0), OUTSIDE);
        Due.is("t 25", x.best(0, 25, NONE, 0), OUTSIDE);
        Due.is("what 2", x.best(0, 1, 0, 2), OUTSIDE);
        Due.is("what -1", x.best(0, 1, 0, -1), OUTSIDE);
        Due.is("no such picker", x.best(1, 0, 0, 2), UNKNOWN);
        Due.is("picker -1", x.best(-1, 1, 0, 0), UNKNOWN);
        Due.is("i far off", x.best(0, 1, Integer.MAX_VALUE, 0), NONE);
    }

    private static void stand(BerryLane x, int h, int... due) {
        Due.is("where(" + h + ", NONE)", x.where(h, NONE), due[0]);
        for (int p = 0; p + 1 < due.length; p++) {
            Due.is("where(" + h + ", " + p + ")", x.where(h, p), due[p + 1]);
        }
    }

    private static void whoWhere() {
        BerryLane x = Due.lane("l1 1 1;b0 0 0 0 300 0;b99 1 1 0 300 0;b0 0 0 0 5 0;p0 20 0 1;p0 20 0 0;c1;");
        stand(x, 1, 40, 1, 0);
        stand(x, 2, 80, 1, 0);
        x.stick(0, false);
        stand(x, 1, 30, 0, 1);
        Due.is("h 0", x.where(0, NONE), OUTSIDE);
        Due.is("h 21", x.where(21, 0), OUTSIDE);
        Due.is("no such picker", x.where(0, 2), UNKNOWN);
        Due.is("picker -2", x.where(1, -2), UNKNOWN);
    }

    private static void whoWhereAlike() {
        BerryLane few = Due.lane("l1 1 1;b0 0 0 0 300 0;p0 5 0 0;p0 9 0 0;p0 9 0 0;");
        stand(few, 1, 9, NONE, 0, NONE);
        BerryLane alike = Due.lane("l1 1 1;b0 0 0 0 300 0;b0 0 0 0 300 0;b0 0 0 0 300 0;p0 5 0 0;p0 5 0 0;p0 9 9 0;");
        stand(alike, 3, 30, 0, 1, 2);
        BerryLane greedy = Due.lane("l1 1 1;b0 0 0 0 0 0;b0 0 0 0 300 0;p0 9 9 0;p0 5 0 0;");
        stand(greedy, 3, 15, 0, 1);
        BerryLane bare = Due.lane("l1 1 1;p0 5 0 0;");
        stand(bare, 3, 0, NONE);
        Due.is("nobody at all", new BerryLane().where(3, NONE), 0);
        Due.is("nobody is 0", new BerryLane().where(3, 0), UNKNOWN);
    }

    private static void settle(BerryLane x, int a, int b, int h, int... due) {
        for (int what = 0; what < 3; what++) {
            Due.is("rivals(" + a + ", " + b + ", " + h + ", " + what + ")", x.rivals(a, b, h, what), due[what]);
        }
    }

    private static void rivalsMove() {
        BerryLane one = Due.lane("l1 1 1;b0 0 0 0 300 0;p0 5 0 0;p0 5 0 0;");
        settle(one, 0, 1, 3, 0, 0, 0);
        BerryLane two = Due.lane("l1 1 1;b0 0 0 0 20 0;b0 0 0 0 20 0;p0 5 0 0;p0 5 0 0;");
        // alone 4 + 4, together 4 + 3: a goes off, b then stays
        settle(two, 0, 1, 2, 1, 1, 0);
        // one handful each: 4 of 20 and 4 of 16, so both stay
        settle(two, 0, 1, 1, 0, 0, 0);
        BerryLane less = Due.lane("l1 1 1;b0 0 0 0 16 0;b0 0 0 0 16 0;p0 5 0 0;p0 5 0 0;");
        // 4 of 16, but 3 of 12: who comes second goes off, in the second turn
        settle(less, 0, 1, 1, 1, 0, 1);
        settle(less, 1, 0, 1, 1, 0, 1);
        BerryLane rich = Due.lane("l1 1 1;b0 0 0 0 300 0;b0 0 0 0 20 0;p0 5 0 0;p0 5 0 0;");
        settle(rich, 0, 1, 20, 0, 0, 0);
        BerryLane later = Due.lane("l1 1 1;b0 0 0 0 20 0;b0 0 0 0 300 0;p0 5 0 0;p0 5 0 0;");
        settle(later, 0, 1, 20, 2, 1, 1);
        // like ones: the least, though one stands at the other
        BerryLane alike = Due.lane("l1 1 1;b0 0 0 0 0 0;b0 0 0 0 0 0;p0 5 0 0;p0 5 0 0;");
        settle(alike, 0, 1, 5, 0, 0, 0);
    }

    private static void rivalsRefused() {
        BerryLane x = Due.lane("l1 1 1;b0 0 0 0 300 0;p0 5 0 0;p0 5 0 0;");
        Due.is("one twice", x.rivals(0, 0, 0, 0), UNKNOWN);
        Due.is("no such a", x.rivals(2, 0, 1, 0), UNKNOWN);
        Due.is("no such b", x.rivals(0, -1, 1, 0), UNKNOWN);
        Due.is("h 0", x.rivals(0, 1, 0, 0), OUTSIDE);
        Due.is("h 21", x.rivals(0, 1, 21, 0), OUTSIDE);
        Due.is("what 3", x.rivals(0, 1, 1, 3), OUTSIDE);
        Due.is("what -1", x.rivals(0, 1, 1, -1), OUTSIDE);
        BerryLane bare = Due.lane("l1 1 1;p0 5 0 0;p0 5 0 0;");
        Due.is("no bushes", bare.rivals(0, 1, 1, 0), NOT);
        Due.is("no bushes, what 3", bare.rivals(0, 1, 1, 3), OUTSIDE);
        Due.is("no bushes, one twice", bare.rivals(1, 1, 1, 0), UNKNOWN);
    }

    private static void whenAgain() {
        // 10, then + 10 - 0, + 9 - 1, + 8 - 1, ...
        BerryLane x = Due.lane("l10 20 1;b0 0 0 100 10 0;b0 0 0 0 10 0;b0 0 2 40 0 0;");
        Due.is("in 1 day", x.again(0, 1, 0), 1);
        Due.is("ripe in 1 day", x.again(0, 1, 1), 20);
        Due.is("in 2 days", x.again(0, 2, 0), 2);
        Due.is("ripe in 2 days", x.again(0, 2, 1), 28);
        Due.is("now is best", x.again(1, 30, 0), 0);
        Due.is("ripe now", x.again(1, 30, 1), 10);
        Due.is("shaded: 2 a day", x.again(2, 1, 1), 2);
        int best = 0;
        int most = x.bush(0, 4);
        int inThirty = x.again(0, 30, 0);
        int ripeInThirty = x.again(0, 30, 1);
        for (int d = 1; d <= 30; d++) {
            x.day(1, false);
            if (x.bush(0, 4) > most) {
                most = x.bush(0, 4);
                best = d;
            }
        }
        Due.is("in 30 days", inThirty, best);
        Due.is("ripe in 30 days", ripeInThirty, most);
        Due.is("n 0", x.again(0, 0, 0), OUTSIDE);
        Due.is("n 31", x.again(0, 31, 0), OUTSIDE);
        Due.is("what 2", x.again(0, 1, 2), OUTSIDE);
        Due.is("what -1", x.again(0, 1, -1), OUTSIDE);
        Due.is("no such bush", x.again(3, 0, 2), UNKNOWN);
    }

    private static void oddsOfRain() {
        // a dry day: 30 + 5 - 6 = 29, a rainy one: 22
        BerryLane x = Due.lane("l4 5 2;b10 0 0 20 30 6;");
        Due.is("29 in a day", x.odds(0, 29, 1, 30), 700000000);
        Due.is("30 in a day", x.odds(0, 30, 1, 30), 0);
        Due.is("22 in a day", x.odds(0, 22, 1, 30), 1000000000);
        Due.is("23 in a day", x.odds(0, 23, 1, 0), 1000000000);
        Due.is("23 in a day of rain", x.odds(0, 23, 1, 100), 0);
        // dry dry 28, dry rainy 21, rainy dry 22, rainy rainy 17
        Due.is("22 in two days", x.odds(0, 22, 2, 30), 490000000 + 210000000);
        Due.is("21 in two days", x.odds(0, 21, 2, 30), 910000000);
        Due.is("18 in two days", x.odds(0, 18, 2, 30), 910000000);
        // all rainy, the part cut each day: 330000000, 108900000, .. 141.. of 8 days
        long rainy = 1000000000L;
        for (int d = 0; d < 8; d++) {
            rainy = rainy * 33 / 100;
        }
        BerryLane y = Due.lane("l1 20 20;b0 0 0 0 20 0;");
        BerryLane wet = Due.lane("l1 20 20;b0 0 0 0 20 0;");
        wet.day(8, true);
        Due.is("all but eight days of rain", y.odds(0, wet.bush(0, 4) + 1, 8, 33), 1000000000L - rainy);
        Due.is("m 999", x.odds(0, 999, 8, 50), 0);
        Due.is("m 1000", x.odds(0, 1000, 1, 50), OUTSIDE);
        Due.is("m -1", x.odds(0, -1, 1, 50), OUTSIDE);
        Due.is("n 0", x.odds(0, 1, 0, 50), OUTSIDE);
        Due.is("n 9", x.odds(0, 1, 9, 50), OUTSIDE);
        Due.is("q -1", x.odds(0, 1, 1, -1), OUTSIDE);
        Due.is("q 101", x.odds(0, 1, 1, 101), OUTSIDE);
        Due.is("no such bush", x.odds(1, 1000, 9, 101), UNKNOWN);
    }

    private static void sticksFor() {
        BerryLane x = Due.lane("l1 1 1;b0 0 1 0 300 0;p0 4 0 0;p0 9 0 1;p0 8 0 0;p0 8 0 0;");
        Due.is("who", x.whom(3, 0), 2);
        Due.is("how much", x.whom(3, 1), 12);
        x.stick(2, true);
        Due.is("who else", x.whom(3, 0), 3);
        x.stick(3, true);
        Due.is("who else", x.whom(3, 0), 0);
        Due.is("how much", x.whom(3, 1), 6);
        x.stick(0, true);
        Due.is("nobody needs one", x.whom(3, 0), 0);
        Due.is("nobody has more", x.whom(3, 1), 0);
        Due.is("t 0", x.whom(0, 0), OUTSIDE);
        Due.is("t 25", x.whom(25, 0), OUTSIDE);
        Due.is("what 2", x.whom(1, 2), OUTSIDE);
        Due.is("what -1", x.whom(1, -1), OUTSIDE);
        BerryLane nobody = Due.lane("l1 1 1;b0 0 1 0 300 0;");
        Due.is("nobody", nobody.whom(3, 0), NONE);
        Due.is("nobody: how much", nobody.whom(3, 1), NONE);
        Due.is("nobody, t 25", nobody.whom(25, 0), OUTSIDE);
        BerryLane bare = Due.lane("l1 1 1;p0 4 0 1;p0 4 0 0;");
        Due.is("no bushes", bare.whom(3, 0), 0);
        Due.is("no bushes: how much", bare.whom(3, 1), 0);
    }

    private static void nothingChanges() {
        BerryLane x = Due.lane("l4 5 2;b10 0 0 20 30 6;b25 1 1 9 40 0;b40 0 2 50 7 3;p10 8 2 0;p0 12 0 1;c40;");
        x.seed(3);
        x.length(0, 0, 0);
        x.best(0, 24, 0, 0);
        x.where(20, 0);
        x.rivals(0, 1, 20, 0);
        x.again(0, 30, 0);
        x.odds(0, 5, 8, 50);
        x.whom(24, 0);
        int[][] bushes = {{10, 0, 0, 20, 30, 6}, {25, 1, 1, 9, 40, 0}, {40, 0, 2, 50, 7, 3}};
        int[][] pickers = {{10, 0, 8, 2, 0, 0, 0, 0}, {0, 0, 12, 0, 1, 0, 0, 0}};
        for (int b = 0; b < 3; b++) {
            for (int what = 0; what < 6; what++) {
                Due.is("tried only: bush(" + b + ", " + what + ")", x.bush(b, what), bushes[b][what]);
            }
        }
        for (int p = 0; p < 2; p++) {
            for (int what = 0; what < 8; what++) {
                Due.is("tried only: picker(" + p + ", " + what + ")", x.picker(p, what), pickers[p][what]);
            }
        }
        Due.is("tried only: the day", x.told(7), 0);
        Due.is("tried only: the seed", x.seed(0), 3);
    }
}
