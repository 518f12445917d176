/** Kinds, days, handfuls, ways, and promises 8 to 15: each sentence that names an edge, at it and on both its sides. */
public final class EdgesOfDoneTest {
    private static final int UNKNOWN = BerryLane.UNKNOWN;
    private static final int OUTSIDE = BerryLane.OUTSIDE;
    private static final int NOT = BerryLane.NOT;
    private static final String LAW = "l20 20 20;";

    public static void main(String[] args) {
        daysFromNought();
        halfOnHighBushes();
        shadedRipenSlower();
        waspsTakeTwoMoments();
        tensBegun();
        threeForTheOtherSide();
        softens();
        falls();
        ripensAPartBegun();
        ofWhatThereWas();
        rainTakesWhatIsSoft();
        rainMakesAQuarterSoft();
        theLesserOfTwo();
        handfulsAreRipeNoMore();
        eatsWhatThereIs();
        theCanHolds();
        theUntoldCanHolds();
        clocksAreNoughtWithADay();
        calledOfNobody();
        goCounts();
        pickOneToSixty();
        pickOnlyThere();
        sticksAnswerWhatWas();
        pourEmpties();
        dayOneToNinetyNine();
        dayNeedsALaw();
        driftOneToNinetyNine();
        driftNeedsBushes();
        drawsOfBushes();
        drawsOfSix();
        drawsOfFour();
        callsOfAnObject();
        Due.end("EdgesOfDoneTest");
    }

    private static BerryLane bush(String law, int kind, int red, int ripe, int soft) {
        return Due.lane(law + "b0 0 " + kind + " " + red + " " + ripe + " " + soft + ";");
    }

    private static void berries(String name, BerryLane x, int red, int ripe, int soft) {
        Due.is(name + ": RED", x.bush(0, 3), red);
        Due.is(name + ": RIPE", x.bush(0, 4), ripe);
        Due.is(name + ": SOFT", x.bush(0, 5), soft);
    }

    private static void daysFromNought() {
        Due.sentence("DAYS are counted from 0.");
        BerryLane x = bush(LAW, 0, 1, 1, 1);
        Due.is("THE DAY at first", x.told(7), 0);
        x.day(1, false);
        Due.is("THE DAY behind one", x.told(7), 1);
        x.day(2, true);
        Due.is("THE DAY behind three", x.told(7), 3);
        x.drift(1);
        Due.is("THE DAY behind one by draws", x.told(7), 4);
    }

    // ---- kinds

    private static void halfOnHighBushes() {
        Due.sentence("1 high: who does not reach high gets half of a handful there");
        int[] half = {0, 1, 1, 2, 2, 3, 3, 4, 4, 5, 5, 6, 6, 7, 7, 8, 8, 9, 9, 10};
        for (int q = 1; q <= 20; q++) {
            BerryLane x = Due.lane(LAW + "b0 0 0 0 300 0;b0 0 1 0 300 0;b0 0 2 0 300 0;b0 0 3 0 300 0;p0 " + q + " 0 0;p0 " + q + " 0 1;");
            for (int b = 0; b < 4; b++) {
                Due.is("low, KIND " + b + ", Q " + q, x.gives(0, b), b == 1 ? half[q - 1] : q);
                Due.is("high, KIND " + b + ", Q " + q, x.gives(1, b), q);
            }
        }
        // half of the lesser of both: of what the bush has, too
        int[] ripe = {0, 1, 5, 6, 10, 11, 15, 16, 20, 21};
        int[] due = {0, 0, 0, 1, 1, 1, 1, 2, 2, 2};
        for (int i = 0; i < ripe.length; i++) {
            BerryLane x = Due.lane(LAW + "b0 0 1 0 " + ripe[i] + " 0;p0 20 0 0;");
            Due.is("low, RIPE " + ripe[i], x.gives(0, 0), due[i]);
        }
    }

    private static void ripens(int m, int kind, int red, int due) {
        BerryLane x = bush("l" + m + " 20 20;", kind, red, 0, 0);
        x.day(1, false);
        berries("M " + m + ", KIND " + kind + ", RED " + red, x, red - due, due, 0);
    }

    private static void shadedRipenSlower() {
        Due.sentence("2 shaded: 1 of 2 M ripens");
        int[][] rows = {{1, 0, 0}, {1, 1, 1}, {1, 2, 1}, {1, 3, 2}, {1, 300, 150}, {4, 7, 1}, {4, 8, 1}, {4, 9, 2},
            {4, 16, 2}, {4, 17, 3}, {20, 39, 1}, {20, 40, 1}, {20, 41, 2}, {20, 300, 8}};
        for (int[] row : rows) {
            ripens(row[0], 2, row[1], row[2]);
        }
    }

    private static void waspsTakeTwoMoments() {
        Due.sentence("3 waspy: a handful takes 2 MOMENTS there, else 1");
        for (int kind = 0; kind < 4; kind++) {
            BerryLane x = Due.lane(LAW + "b0 0 " + kind + " 0 300 0;p0 1 0 0;");
            for (int n = 1; n <= 3; n++) {
                x.pick(0, 0, 1);
                Due.is("CLOCK behind " + n + ", KIND " + kind, x.picker(0, 7), kind == 3 ? 2 * n : n);
            }
            x.pick(0, 0, 60);
            Due.is("CLOCK behind 63, KIND " + kind, x.picker(0, 7), kind == 3 ? 126 : 63);
        }
        // a handful of nothing takes its time, too
        BerryLane empty = Due.lane(LAW + "b0 0 3 9 0 9;p0 1 0 0;");
        empty.pick(0, 0, 1);
        Due.is("CLOCK behind a handful of nothing", empty.picker(0, 7), 2);
    }

    // ---- ways

    private static void way(int from, int to, int side, int due) {
        BerryLane x = Due.lane(LAW + "b" + to + " " + side + " 0 0 0 0;p" + from + " 1 0 0;");
        Due.is("from yard " + from + " to " + to + ", side " + side, x.way(0, 0), due);
        x.go(0, 0);
        Due.is("there", x.way(0, 0), 0);
    }

    private static void tensBegun() {
        Due.sentence("MOMENTS of it: as many tens as begun. .. A MOMENT is 10 seconds.");
        int[] yards = {0, 1, 9, 10, 11, 19, 20, 21, 30, 31, 90, 91, 99};
        int[] due = {0, 1, 1, 1, 2, 2, 2, 3, 3, 4, 9, 10, 10};
        for (int i = 0; i < yards.length; i++) {
            way(0, yards[i], 0, due[i]);
            way(99, 99 - yards[i], 0, due[i]);
        }
    }

    private static void threeForTheOtherSide() {
        Due.sentence("yards between, and 3, if the sides are unlike, in seconds");
        int[] yards = {0, 6, 7, 8, 16, 17, 18, 96, 97, 98, 99};
        int[] due = {1, 1, 1, 2, 2, 2, 3, 10, 10, 11, 11};
        for (int i = 0; i < yards.length; i++) {
            way(0, yards[i], 1, due[i]);
            way(99, 99 - yards[i], 1, due[i]);
        }
        BerryLane x = Due.lane(LAW + "b0 1 0 0 0 0;b10 1 0 0 0 0;b7 0 0 0 0 0;b8 0 0 0 0 0;p0 1 0 0;");
        x.go(0, 0);
        Due.is("both on side 1", x.way(0, 1), 1);
        Due.is("back to side 0, 10 seconds", x.way(0, 2), 1);
        Due.is("back to side 0, 11 seconds", x.way(0, 3), 2);
    }

    // ---- days

    private static void softens() {
        Due.sentence("softens RIPE / R");
        int[][] rows = {{1, 0, 0}, {1, 1, 1}, {1, 300, 300}, {2, 1, 0}, {2, 2, 1}, {2, 3, 1}, {5, 4, 0}, {5, 5, 1},
            {5, 6, 1}, {5, 9, 1}, {5, 10, 2}, {20, 19, 0}, {20, 20, 1}, {20, 21, 1}, {20, 299, 14}, {20, 300, 15}};
        for (int[] row : rows) {
            BerryLane x = bush("l1 " + row[0] + " 1;", 0, 0, row[1], 0);
            Due.is("RIPE in all", x.day(1, false), row[1] - row[2]);
            berries("R " + row[0] + ", RIPE " + row[1], x, 0, row[1] - row[2], row[2]);
        }
    }

    private static void falls() {
        Due.sentence("falls SOFT / S");
        int[][] rows = {{1, 0, 0}, {1, 1, 1}, {1, 300, 300}, {2, 1, 0}, {2, 2, 1}, {2, 3, 1}, {5, 4, 0}, {5, 5, 1},
            {5, 9, 1}, {5, 10, 2}, {20, 19, 0}, {20, 20, 1}, {20, 21, 1}, {20, 300, 15}};
        for (int[] row : rows) {
            BerryLane x = bush("l1 1 " + row[0] + ";", 0, 0, 0, row[1]);
            x.day(1, false);
            berries("S " + row[0] + ", SOFT " + row[1], x, 0, 0, row[1] - row[2]);
        }
    }

    private static void ripensAPartBegun() {
        Due.sentence("ripens (RED and M less 1) / M (as many as come to a part begun");
        int[][] rows = {{1, 0, 0}, {1, 1, 1}, {1, 300, 300}, {2, 1, 1}, {2, 2, 1}, {2, 3, 2}, {4, 0, 0}, {4, 1, 1},
            {4, 3, 1}, {4, 4, 1}, {4, 5, 2}, {4, 8, 2}, {4, 9, 3}, {20, 1, 1}, {20, 20, 1}, {20, 21, 2}, {20, 300, 15}};
        for (int[] row : rows) {
            for (int kind : new int[] {0, 1, 3}) {
                ripens(row[0], kind, row[1], row[2]);
            }
        }
    }

    private static void ofWhatThereWas() {
        Due.sentence("all of what there was");
        BerryLane all = bush("l1 1 1;", 0, 10, 20, 30);
        all.day(1, false);
        berries("all of each", all, 0, 10, 20);
        // what ripens on this day does not make the fifth that softens, what softens not the second that falls
        BerryLane x = bush("l1 5 2;", 0, 1, 4, 1);
        x.day(1, false);
        berries("RIPE 4 and 1", x, 0, 5, 1);
        BerryLane y = bush("l1 5 2;", 0, 0, 5, 1);
        y.day(1, false);
        berries("SOFT 1 and 1", y, 0, 4, 2);
    }

    private static void rainTakesWhatIsSoft() {
        Due.sentence("on a rainy one then all that is SOFT is lost");
        for (int soft : new int[] {0, 1, 2, 300}) {
            BerryLane x = bush(LAW, 0, 0, 3, soft);
            x.day(1, true);
            berries("SOFT " + soft, x, 0, 3, 0);
        }
        // what softened on the same day is lost, too
        BerryLane x = bush("l1 1 1;", 0, 0, 8, 0);
        Due.is("day(1, true)", x.day(1, true), 0);
        berries("RIPE 8, R 1", x, 0, 0, 0);
    }

    private static void rainMakesAQuarterSoft() {
        Due.sentence("and RIPE / 4 becomes SOFT");
        int[] ripe = {0, 1, 3, 4, 5, 7, 8, 11, 12, 19};
        int[] due = {0, 0, 0, 1, 1, 1, 2, 2, 3, 4};
        for (int i = 0; i < ripe.length; i++) {
            BerryLane x = bush(LAW, 0, 0, ripe[i], 9);
            Due.is("RIPE in all", x.day(1, true), ripe[i] - due[i]);
            berries("RIPE " + ripe[i], x, 0, ripe[i] - due[i], due[i]);
            BerryLane dry = bush(LAW, 0, 0, ripe[i], 9);
            dry.day(1, false);
            berries("RIPE " + ripe[i] + ", dry", dry, 0, ripe[i], 9);
        }
        // of what is RIPE behind the day: 3 and 1 of RED; 20 less 1
        BerryLane more = bush(LAW, 0, 1, 3, 0);
        more.day(1, true);
        berries("RIPE 3 and 1", more, 0, 3, 1);
        BerryLane less = bush(LAW, 0, 0, 20, 0);
        less.day(1, true);
        berries("RIPE 20 less 1", less, 0, 15, 4);
    }

    // ---- handfuls

    private static void theLesserOfTwo() {
        Due.sentence("GIVES: the lesser of Q and (RIPE and 4) / 5");
        int[][] rows = {{1, 0, 0}, {1, 1, 1}, {1, 300, 1}, {3, 0, 0}, {3, 1, 1}, {3, 5, 1}, {3, 6, 2}, {3, 10, 2},
            {3, 11, 3}, {3, 15, 3}, {3, 16, 3}, {20, 95, 19}, {20, 96, 20}, {20, 100, 20}, {20, 101, 20}, {20, 300, 20}};
        for (int[] row : rows) {
            BerryLane x = Due.lane(LAW + "b0 0 0 300 " + row[1] + " 300;p99 " + row[0] + " 9 0;");
            Due.is("gives, Q " + row[0] + ", RIPE " + row[1], x.gives(0, 0), row[2]);
            x.go(0, 0);
            Due.is("pick, Q " + row[0] + ", RIPE " + row[1], x.pick(0, 0, 1), row[2]);
        }
    }

    private static void handfulsAreRipeNoMore() {
        Due.sentence("these are RIPE no more");
        BerryLane x = Due.lane(LAW + "b0 0 0 7 6 8;p0 20 0 0;");
        int[] gave = {2, 1, 1, 1, 1, 0, 0};
        int[] ripe = {4, 3, 2, 1, 0, 0, 0};
        for (int i = 0; i < gave.length; i++) {
            Due.is("handful " + i, x.pick(0, 0, 1), gave[i]);
            berries("behind handful " + i, x, 7, ripe[i], 8);
        }
    }

    private static void eatsWhatThereIs() {
        Due.sentence("he eats E of them, as many as there are at most; the rest comes to his CAN");
        int[][] rows = {{0, 1, 0}, {0, 20, 0}, {1, 1, 1}, {3, 2, 2}, {3, 3, 3}, {3, 4, 3}, {9, 1, 1}, {9, 8, 8},
            {9, 9, 9}, {9, 10, 9}, {9, 20, 9}};
        for (int[] row : rows) {
            BerryLane x = Due.lane(LAW + "b0 0 0 0 300 0;p0 " + row[1] + " " + row[0] + " 0;");
            Due.is("pick", x.pick(0, 0, 1), row[1]);
            Due.is("E " + row[0] + ", Q " + row[1] + ": eaten", x.picker(0, 6), row[2]);
            Due.is("E " + row[0] + ", Q " + row[1] + ": in the CAN", x.picker(0, 5), row[1] - row[2]);
            x.pick(0, 0, 1);
            Due.is("E " + row[0] + ", Q " + row[1] + ": eaten of two", x.picker(0, 6), 2 * row[2]);
        }
        BerryLane none = Due.lane(LAW + "b0 0 0 0 0 0;p0 9 9 0;");
        Due.is("a handful of nothing", none.pick(0, 0, 1), 0);
        Due.is("nothing is eaten", none.picker(0, 6), 0);
    }

    private static void theCanHolds() {
        Due.sentence("what is more than it holds is lost");
        int[] holds = {1, 4, 5, 6, 9, 10, 11, 14, 15, 16};
        for (int v : holds) {
            BerryLane x = Due.lane(LAW + "b0 0 0 0 300 0;p0 7 2 0;c" + v + ";");
            for (int n = 1; n <= 4; n++) {
                Due.is("pick", x.pick(0, 0, 1), 7);
                Due.is("V " + v + ": in the CAN behind " + n, x.picker(0, 5), Math.min(v, 5 * n));
                Due.is("V " + v + ": eaten all the same", x.picker(0, 6), 2 * n);
                Due.is("V " + v + ": RIPE all the same", x.bush(0, 4), 300 - 7 * n);
            }
            Due.is("V " + v + ": pour", x.pour(0), Math.min(v, 20));
            x.pick(0, 0, 1);
            Due.is("V " + v + ": what was lost does not come", x.picker(0, 5), Math.min(v, 5));
        }
        BerryLane at = Due.lane(LAW + "b0 0 0 0 300 0;p0 5 0 0;p0 5 0 0;c7;");
        at.pick(0, 0, 3);
        Due.is("three at one time", at.picker(0, 5), 7);
        Due.is("another one's CAN", at.picker(1, 5), 0);
    }

    private static void theUntoldCanHolds() {
        Due.sentence("a CAN holds V, 1 .. 999; 999 untold");
        BerryLane x = Due.lane(LAW + "b0 0 0 0 300 0;".repeat(4) + "p0 1 0 0;");
        for (int b = 0; b < 3; b++) {
            for (int n = 0; n < 5; n++) {
                x.pick(0, b, 60);
            }
        }
        Due.is("900", x.picker(0, 5), 900);
        x.pick(0, 3, 60);
        x.pick(0, 3, 38);
        Due.is("998", x.picker(0, 5), 998);
        x.pick(0, 3, 1);
        Due.is("999", x.picker(0, 5), 999);
        x.pick(0, 3, 1);
        Due.is("999 and 1", x.picker(0, 5), 999);
        Due.is("RIPE no more all the same", x.bush(3, 4), 200);
    }

    private static void clocksAreNoughtWithADay() {
        Due.sentence("with a DAY it is 0, he stays where he is");
        for (int which = 0; which < 3; which++) {
            BerryLane x = Due.lane(LAW + "b50 1 0 0 300 0;p0 1 0 0;p99 1 0 0;");
            x.go(0, 0);
            x.pick(0, 0, 3);
            x.go(1, 0);
            Due.is("CLOCK of 0", x.picker(0, 7), 9);
            Due.is("CLOCK of 1", x.picker(1, 7), 6);
            int answer = which == 0 ? x.day(1, false) : which == 1 ? x.day(2, true) : x.drift(1);
            for (int p = 0; p < 2; p++) {
                Due.is("CLOCK of " + p + " behind " + answer, x.picker(p, 7), 0);
                Due.is("yard of " + p, x.picker(p, 0), 50);
                Due.is("side of " + p, x.picker(p, 1), 1);
            }
            Due.is("counted anew", x.go(0, 0), 0);
        }
    }

    // ---- calls

    private static void calledOfNobody() {
        Due.sentence("UNKNOWN (a BUSH, PICKER, IMAGE that there is not");
        BerryLane x = Due.lane(LAW + "b0 0 0 9 9 9;".repeat(3) + "p0 8 0 0;p0 8 0 0;");
        BerryLane full = Due.lane("l1 1 1;" + "b0 0 0 9 9 9;".repeat(6) + "p0 8 0 0;".repeat(4));
        int[] none = {Integer.MIN_VALUE, -1, 6, 7, Integer.MAX_VALUE};
        for (int k : none) {
            calledWith(full, k, 0, UNKNOWN);
            calledWith(full, 0, k, UNKNOWN);
        }
        calledWith(x, 2, 0, UNKNOWN);
        calledWith(x, 0, 3, UNKNOWN);
        calledWith(full, 4, 0, UNKNOWN);
        calledWith(new BerryLane(), 0, 0, UNKNOWN);
        Due.is("gives(1, 2)", x.gives(1, 2), 2);
        Due.is("way(1, 2)", x.way(1, 2), 0);
        Due.is("go(1, 2)", x.go(1, 2), 0);
        Due.is("gives(3, 5)", full.gives(3, 5), 2);
        Due.is("way(3, 5)", full.way(3, 5), 0);
        Due.is("go(3, 5)", full.go(3, 5), 0);
        Due.is("pick(3, 5, 1)", full.pick(3, 5, 1), 2);
        for (int p : new int[] {Integer.MIN_VALUE, -1, 2, Integer.MAX_VALUE}) {
            Due.is("stick(" + p + ", true)", x.stick(p, true), UNKNOWN);
            Due.is("pour(" + p + ")", x.pour(p), UNKNOWN);
        }
        Due.is("stick(1, true)", x.stick(1, true), 0);
        Due.is("pour(1)", x.pour(1), 0);
    }

    private static void calledWith(BerryLane x, int p, int b, int due) {
        String with = "(" + p + ", " + b + ")";
        Due.is("gives" + with, x.gives(p, b), due);
        Due.is("way" + with, x.way(p, b), due);
        Due.is("go" + with, x.go(p, b), due);
        Due.is("pick" + with, x.pick(p, b, 1), due);
    }

    private static void goCounts() {
        Due.sentence("A PICKER goes to a BUSH: his CLOCK.");
        BerryLane x = Due.lane(LAW + "b10 0 0 0 0 0;b11 0 0 0 0 0;b0 0 0 0 0 0;p0 1 0 0;");
        Due.is("10 yards", x.go(0, 0), 1);
        Due.is("where he is", x.go(0, 0), 1);
        Due.is("1 yard more", x.go(0, 1), 2);
        Due.is("11 yards back", x.go(0, 2), 4);
        Due.is("CLOCK", x.picker(0, 7), 4);
    }

    private static void pickOneToSixty() {
        Due.sentence("n HANDFULS (1 .. 60) of a PICKER at a BUSH: what they GAVE in all.");
        for (int n : new int[] {Integer.MIN_VALUE, -1, 0, 61, 62, Integer.MAX_VALUE}) {
            BerryLane x = Due.lane(LAW + "b0 0 0 0 100 0;p0 1 0 0;");
            Due.is("pick(0, 0, " + n + ")", x.pick(0, 0, n), OUTSIDE);
            Due.is("RIPE", x.bush(0, 4), 100);
            Due.is("CLOCK", x.picker(0, 7), 0);
        }
        for (int n : new int[] {1, 2, 59, 60}) {
            BerryLane x = Due.lane(LAW + "b0 0 0 0 100 0;p0 1 0 0;");
            Due.is("pick(0, 0, " + n + ")", x.pick(0, 0, n), n);
            Due.is("RIPE", x.bush(0, 4), 100 - n);
            Due.is("CLOCK", x.picker(0, 7), n);
            Due.is("in the CAN", x.picker(0, 5), n);
        }
        BerryLane few = Due.lane(LAW + "b0 0 0 0 59 0;p0 1 0 0;");
        Due.is("60 of 59", few.pick(0, 0, 60), 59);
        Due.is("CLOCK of 60 of 59", few.picker(0, 7), 60);
    }

    private static void pickOnlyThere() {
        Due.sentence("NOT: he is not there.");
        BerryLane x = Due.lane(LAW + "b49 0 0 0 9 0;b50 0 0 0 9 0;b51 0 0 0 9 0;b50 1 0 0 9 0;p50 1 0 0;");
        int[] due = {NOT, 1, NOT, NOT};
        for (int b = 0; b < 4; b++) {
            Due.is("pick(0, " + b + ", 1)", x.pick(0, b, 1), due[b]);
            Due.is("RIPE of " + b, x.bush(b, 4), due[b] == NOT ? 9 : 8);
        }
        x.go(0, 3);
        int[] then = {NOT, NOT, NOT, 1};
        for (int b = 0; b < 4; b++) {
            Due.is("pick(0, " + b + ", 1) on side 1", x.pick(0, b, 1), then[b]);
        }
        Due.is("0 handfuls where he is not", x.pick(0, 0, 0), OUTSIDE);
        Due.is("61 handfuls where he is not", x.pick(0, 0, 61), OUTSIDE);
    }

    private static void sticksAnswerWhatWas() {
        Due.sentence("A PICKER reaches high from now on, or not: 1 he did, 0 he did not.");
        BerryLane x = Due.lane(LAW + "b0 0 1 0 300 0;p0 6 0 0;p0 6 0 1;");
        boolean[] is = {false, true, true, false, false, true};
        int[] zero = {0, 0, 1, 1, 0, 0};
        int[] one = {1, 0, 1, 1, 0, 0};
        for (int i = 0; i < is.length; i++) {
            Due.is("stick(0, " + is[i] + "), number " + i, x.stick(0, is[i]), zero[i]);
            Due.is("stick(1, " + is[i] + "), number " + i, x.stick(1, is[i]), one[i]);
            Due.is("reaches high", x.picker(0, 4), is[i] ? 1 : 0);
            Due.is("gives", x.gives(1, 0), is[i] ? 6 : 3);
        }
    }

    private static void pourEmpties() {
        Due.sentence("A CAN is emptied: what was in it.");
        BerryLane x = Due.lane(LAW + "b0 0 0 0 300 0;p0 6 1 0;p0 6 0 0;c10;");
        Due.is("an empty one", x.pour(0), 0);
        x.pick(0, 0, 2);
        x.pick(1, 0, 1);
        Due.is("a full one", x.pour(0), 10);
        Due.is("emptied", x.picker(0, 5), 0);
        Due.is("an emptied one", x.pour(0), 0);
        Due.is("the other one's stays", x.picker(1, 5), 6);
        Due.is("eaten stays", x.picker(0, 6), 2);
        Due.is("the CLOCK stays", x.picker(0, 7), 2);
    }

    private static void dayOneToNinetyNine() {
        Due.sentence("n DAYS (1 .. 99), all rainy or all dry: RIPE in all.");
        String text = "l9 8 7;b0 0 0 300 9 6;b0 0 2 300 200 0;p0 1 0 0;";
        for (int n : new int[] {Integer.MIN_VALUE, -1, 0, 100, 101, Integer.MAX_VALUE}) {
            BerryLane x = Due.lane(text);
            Due.is("day(" + n + ", false)", x.day(n, false), OUTSIDE);
            Due.is("day(" + n + ", true)", x.day(n, true), OUTSIDE);
            Due.is("THE DAY", x.told(7), 0);
        }
        for (int n : new int[] {1, 2, 7, 98, 99}) {
            for (int rain = 0; rain < 2; rain++) {
                BerryLane x = Due.lane(text);
                BerryLane one = Due.lane(text);
                int ripe = 0;
                for (int i = 0; i < n; i++) {
                    ripe = one.day(1, rain == 1);
                }
                Due.is("day(" + n + ", " + rain + ")", x.day(n, rain == 1), ripe);
                Look.same("day(" + n + ", " + rain + ")", Look.at(x), Look.at(one));
            }
        }
        BerryLane x = Due.lane(text);
        // 300 + 8 / 9 is 34: 9 less 1 and 34; 300 + 17 / 18 is 17: 200 less 25 and 17
        Due.is("a dry day", x.day(1, false), 42 + 192);
    }

    private static void dayNeedsALaw() {
        Due.sentence("OUTSIDE, NOT: no law.");
        BerryLane none = new BerryLane();
        Due.is("day(1, false)", none.day(1, false), NOT);
        Due.is("day(99, true)", none.day(99, true), NOT);
        Due.is("day(0, false)", none.day(0, false), OUTSIDE);
        Due.is("day(100, false)", none.day(100, false), OUTSIDE);
        Due.is("THE DAY", none.told(7), 0);
        BerryLane law = Due.lane("l1 1 1;");
        Due.is("a law without bushes", law.day(1, true), 0);
        Due.is("THE DAY", law.told(7), 1);
        law.lane();
        Due.is("the law is gone", law.day(1, true), NOT);
    }

    private static void driftOneToNinetyNine() {
        Due.sentence("n days BY DRAWS (1 .. 99): RIPE in all.");
        String text = "l9 8 7;b0 0 0 300 9 6;b70 1 3 300 200 0;p0 9 1 0;p50 3 0 0;c20;";
        for (int n : new int[] {Integer.MIN_VALUE, -1, 0, 100, 101, Integer.MAX_VALUE}) {
            BerryLane x = Due.lane(text);
            Due.is("drift(" + n + ")", x.drift(n), OUTSIDE);
            Look.same("drift(" + n + ")", Look.at(x), Look.at(Due.lane(text)));
        }
        for (int n : new int[] {1, 2, 98, 99}) {
            BerryLane x = Due.lane(text);
            BerryLane one = Due.lane(text);
            int ripe = 0;
            for (int i = 0; i < n; i++) {
                ripe = one.drift(1);
            }
            Due.is("drift(" + n + ")", x.drift(n), ripe);
            Due.is("THE DAY", x.told(7), n);
            Look.same("drift(" + n + ")", Look.at(x), Look.at(one));
        }
    }

    private static void driftNeedsBushes() {
        Due.sentence("OUTSIDE, NOT: no law, no BUSHES.");
        BerryLane none = new BerryLane();
        Due.is("no law", none.drift(1), NOT);
        Due.is("no law, 0 days", none.drift(0), OUTSIDE);
        Due.is("no law, 100 days", none.drift(100), OUTSIDE);
        BerryLane law = Due.lane("l1 1 1;p0 1 0 0;");
        Due.is("no BUSHES", law.drift(1), NOT);
        Due.is("no BUSHES, 100 days", law.drift(100), OUTSIDE);
        Due.is("no DRAW was made", law.seed(0), 0);
        Due.is("THE DAY", law.told(7), 0);
        BerryLane one = Due.lane("l1 1 1;b0 0 0 8 0 0;");
        Due.is("a BUSH, no PICKERS", one.drift(1) >= 0 ? 1 : 0, 1);
        Due.is("one DRAW, the day's", one.seed(0), 12345);
    }

    // ---- draws

    private static long drawn;

    private static int draw(int n) {
        drawn = (drawn * 1103515245L + 12345L) % 2147483648L;
        return (int) (drawn / 65536 % n);
    }

    private static void drawsOfBushes() {
        Due.sentence("each PICKER in order goes to a DRAW of BUSHES");
        for (int bushes = 1; bushes <= 6; bushes++) {
            StringBuilder text = new StringBuilder("l1 1 1;");
            for (int b = 0; b < bushes; b++) {
                text.append("b").append(10 * b + 5).append(" ").append(b % 2).append(" 0 0 9 0;");
            }
            int seen = 0;
            for (int seed = 0; seed < 60; seed++) {
                BerryLane x = Due.lane(text + "p0 1 0 0;p0 1 0 0;");
                x.seed(seed);
                x.drift(1);
                drawn = seed;
                for (int p = 0; p < 2; p++) {
                    int b = draw(bushes);
                    draw(6);
                    Due.is("of " + bushes + " by " + seed + ": yard of " + p, x.picker(p, 0), 10 * b + 5);
                    Due.is("of " + bushes + " by " + seed + ": side of " + p, x.picker(p, 1), b % 2);
                    seen |= 1 << b;
                }
            }
            Due.is("every one of " + bushes + " was drawn", seen, (1 << bushes) - 1);
        }
    }

    private static void drawsOfSix() {
        Due.sentence("takes a DRAW of 6 HANDFULS");
        int seen = 0;
        for (int seed = 0; seed < 60; seed++) {
            BerryLane x = Due.lane("l1 1 1;b0 0 0 0 300 0;p0 1 0 0;");
            x.seed(seed);
            x.drift(1);
            drawn = seed;
            draw(1);
            int handfuls = draw(6);
            Due.is("by " + seed, x.picker(0, 5), handfuls);
            seen |= 1 << handfuls;
        }
        Due.is("0 to 5 were drawn", seen, 63);
    }

    private static void drawsOfFour() {
        Due.sentence("then a DAY, rainy by a DRAW of 4 of 0");
        int seen = 0;
        for (int seed = 0; seed < 40; seed++) {
            BerryLane x = bush("l20 20 20;", 0, 0, 8, 0);
            x.seed(seed);
            drawn = seed;
            int rain = draw(4);
            Due.is("by " + seed, x.drift(1), rain == 0 ? 6 : 8);
            Due.is("THE SEED then", x.seed(0), drawn);
            seen |= 1 << rain;
        }
        Due.is("0 to 3 were drawn", seen, 15);
    }

    private static void callsOfAnObject() {
        Due.sentence("An object is used for at most 512 calls after it has been made");
        String text = "l20 20 20;b0 0 0 300 300 0;b99 1 0 300 300 0;p0 20 9 0;";
        BerryLane days = new BerryLane();
        Due.feed(days, text);
        days.lane();
        int calls = text.length() + 1;
        for (; calls < 511; calls++) {
            days.day(99, false);
        }
        Due.is("THE DAY in the 512th call", days.told(7), 99 * (511 - text.length() - 1));
        BerryLane ways = new BerryLane();
        Due.feed(ways, text);
        ways.lane();
        int clock = 0;
        for (calls = text.length() + 1; calls < 512; calls++) {
            clock += 11 * Math.min(1, calls - text.length() - 1);
            Due.is("CLOCK", ways.go(0, calls % 2 == text.length() % 2 ? 1 : 0), clock);
        }
        BerryLane drifts = new BerryLane();
        BerryLane one = new BerryLane();
        Due.feed(drifts, text);
        Due.feed(one, text);
        drifts.lane();
        one.lane();
        for (calls = text.length() + 1; calls < 512; calls++) {
            int ripe = drifts.drift(99);
            for (int i = 0; i < 99; i++) {
                one.drift(1);
            }
            Due.is("RIPE in all", ripe, one.told(8));
        }
    }
}
