/** Promises 8 to 15: handfuls, ways, sticks, cans, days, days by draws. */
public final class DoneTest {
    private static final int UNKNOWN = BerryLane.UNKNOWN;
    private static final int OUTSIDE = BerryLane.OUTSIDE;
    private static final int NOT = BerryLane.NOT;

    public static void main(String[] args) {
        handfulsByRipe();
        halfOfAHandful();
        ways();
        going();
        picking();
        canRunsOver();
        eatingMoreThanThereIs();
        sticks();
        pouring();
        dryDays();
        rainyDays();
        daysRefused();
        drifting();
        Due.end("DoneTest");
    }

    private static void handfulsByRipe() {
        int[] ripe = {0, 1, 4, 5, 6, 10, 11, 35, 36, 40, 41, 300};
        int[] due = {0, 1, 1, 1, 2, 2, 3, 7, 8, 8, 8, 8};
        for (int i = 0; i < ripe.length; i++) {
            BerryLane x = Due.lane("l1 1 1;b0 0 0 9 " + ripe[i] + " 9;p0 8 0 0;");
            Due.is("gives of " + ripe[i] + " ripe", x.gives(0, 0), due[i]);
            Due.is("gives changes nothing", x.bush(0, 4), ripe[i]);
        }
        BerryLane x = Due.lane("l1 1 1;b0 0 0 9 300 9;p0 20 0 0;p0 1 0 0;");
        Due.is("gives, quickness 20", x.gives(0, 0), 20);
        Due.is("gives, quickness 1", x.gives(1, 0), 1);
        refusePickerAndBush("gives", 0);
    }

    private static void refusePickerAndBush(String call, int which) {
        BerryLane x = Due.lane("l1 1 1;b0 0 0 9 9 9;b1 0 0 9 9 9;p0 8 0 0;");
        int[][] wrong = {{-1, 0}, {1, 0}, {0, -1}, {0, 2}, {1, 2}, {Integer.MIN_VALUE, 0}, {0, Integer.MAX_VALUE}};
        for (int[] w : wrong) {
            int got = which == 0 ? x.gives(w[0], w[1]) : which == 1 ? x.way(w[0], w[1]) : x.go(w[0], w[1]);
            Due.is(call + "(" + w[0] + ", " + w[1] + ")", got, UNKNOWN);
        }
    }

    private static void halfOfAHandful() {
        BerryLane x = Due.lane("l1 1 1;b0 0 1 0 300 0;b0 0 1 0 5 0;b0 0 2 0 300 0;b0 0 3 0 300 0;p0 7 0 0;p0 7 0 1;p0 1 0 0;");
        Due.is("half of 7", x.gives(0, 0), 3);
        Due.is("all of 7", x.gives(1, 0), 7);
        Due.is("half of 1", x.gives(2, 0), 0);
        Due.is("half of what 5 ripe give", x.gives(0, 1), 0);
        Due.is("shaded is not high", x.gives(0, 2), 7);
        Due.is("waspy is not high", x.gives(0, 3), 7);
    }

    private static void ways() {
        String[] bush = {"0 0", "1 0", "10 0", "11 0", "0 1", "7 1", "8 1", "99 1"};
        int[] due = {0, 1, 1, 2, 1, 1, 2, 11};
        for (int i = 0; i < bush.length; i++) {
            BerryLane x = Due.lane("l1 1 1;b" + bush[i] + " 0 0 0 0;p0 1 0 0;");
            Due.is("way to " + bush[i], x.way(0, 0), due[i]);
            Due.is("way goes nowhere", x.picker(0, 0), 0);
        }
        BerryLane back = Due.lane("l1 1 1;b90 1 0 0 0 0;b20 1 0 0 0 0;p99 1 0 0;");
        Due.is("way back", back.way(0, 0), 2);
        back.go(0, 0);
        Due.is("way on the same side", back.way(0, 1), 7);
        refusePickerAndBush("way", 1);
    }

    private static void going() {
        BerryLane x = Due.lane("l1 1 1;b15 1 0 0 0 0;b0 0 0 0 0 0;p0 1 0 0;p5 1 0 0;");
        Due.is("go(0, 0)", x.go(0, 0), 2);
        Due.is("yard", x.picker(0, 0), 15);
        Due.is("side", x.picker(0, 1), 1);
        Due.is("go(0, 0) again", x.go(0, 0), 2);
        Due.is("go(0, 1)", x.go(0, 1), 4);
        Due.is("side", x.picker(0, 1), 0);
        Due.is("the other one's clock", x.picker(1, 7), 0);
        Due.is("the other one's yard", x.picker(1, 0), 5);
        x.go(0, 0);
        x.day(1, false);
        Due.is("clock behind a day", x.picker(0, 7), 0);
        Due.is("yard behind a day", x.picker(0, 0), 15);
        Due.is("side behind a day", x.picker(0, 1), 1);
        refusePickerAndBush("go", 2);
    }

    private static void picking() {
        BerryLane x = Due.lane("l1 1 1;b10 0 0 7 30 6;b10 1 0 0 30 0;b11 0 0 0 30 0;b10 0 3 0 30 0;p10 8 2 0;");
        Due.is("pick(0, 0, 1)", x.pick(0, 0, 1), 6);
        Due.is("ripe", x.bush(0, 4), 24);
        Due.is("red", x.bush(0, 3), 7);
        Due.is("soft", x.bush(0, 5), 6);
        Due.is("can", x.picker(0, 5), 4);
        Due.is("eaten", x.picker(0, 6), 2);
        Due.is("clock", x.picker(0, 7), 1);
        Due.is("pick(0, 0, 2)", x.pick(0, 0, 2), 9);
        Due.is("a waspy bush at the same place", x.pick(0, 3, 2), 11);
        Due.is("clock by wasps", x.picker(0, 7), 7);
        Due.is("the other side", x.pick(0, 1, 1), NOT);
        Due.is("another yard", x.pick(0, 2, 1), NOT);
        Due.is("pick(0, 0, 0)", x.pick(0, 0, 0), OUTSIDE);
        Due.is("pick(0, 0, 61)", x.pick(0, 0, 61), OUTSIDE);
        Due.is("pick(0, 1, 61), not there", x.pick(0, 1, 61), OUTSIDE);
        Due.is("pick(0, 4, 61)", x.pick(0, 4, 61), UNKNOWN);
        Due.is("pick(1, 0, 1)", x.pick(1, 0, 1), UNKNOWN);
        Due.is("pick(-1, 0, 0)", x.pick(-1, 0, 0), UNKNOWN);
        Due.is("refused: clock", x.picker(0, 7), 7);
        Due.is("pick(0, 0, 60) empties it", x.pick(0, 0, 60), 15);
        Due.is("nothing is ripe", x.bush(0, 4), 0);
        Due.is("clock of 60", x.picker(0, 7), 67);
    }

    private static void canRunsOver() {
        BerryLane x = Due.lane("l1 1 1;b0 0 0 0 300 0;p0 20 3 0;c40;");
        Due.is("pick 2", x.pick(0, 0, 2), 40);
        Due.is("can", x.picker(0, 5), 34);
        Due.is("pick 1", x.pick(0, 0, 1), 20);
        Due.is("can is full", x.picker(0, 5), 40);
        Due.is("eaten all the same", x.picker(0, 6), 9);
        Due.is("ripe", x.bush(0, 4), 240);
    }

    private static void eatingMoreThanThereIs() {
        BerryLane x = Due.lane("l1 1 1;b0 0 0 0 12 0;p0 5 9 0;");
        Due.is("pick 1", x.pick(0, 0, 1), 3);
        Due.is("can", x.picker(0, 5), 0);
        Due.is("eaten", x.picker(0, 6), 3);
    }

    private static void sticks() {
        BerryLane x = Due.lane("l1 1 1;b0 0 1 0 300 0;p0 8 0 0;p0 8 0 1;");
        Due.is("stick(0, false)", x.stick(0, false), 0);
        Due.is("stick(0, true)", x.stick(0, true), 0);
        Due.is("reaches", x.picker(0, 4), 1);
        Due.is("gives", x.gives(0, 0), 8);
        Due.is("stick(0, true)", x.stick(0, true), 1);
        Due.is("stick(1, false)", x.stick(1, false), 1);
        Due.is("gives", x.gives(1, 0), 4);
        Due.is("stick(2, true)", x.stick(2, true), UNKNOWN);
        Due.is("stick(-1, true)", x.stick(-1, true), UNKNOWN);
    }

    private static void pouring() {
        BerryLane x = Due.lane("l1 1 1;b0 0 0 0 300 0;p0 8 3 0;p0 8 0 1;");
        x.pick(0, 0, 2);
        Due.is("pour(0)", x.pour(0), 10);
        Due.is("can", x.picker(0, 5), 0);
        Due.is("eaten stays", x.picker(0, 6), 6);
        Due.is("pour(0)", x.pour(0), 0);
        Due.is("pour(1)", x.pour(1), 0);
        Due.is("pour(2)", x.pour(2), UNKNOWN);
        Due.is("pour(-1)", x.pour(-1), UNKNOWN);
    }

    private static void berries(BerryLane x, int b, int red, int ripe, int soft) {
        Due.is("red of " + b, x.bush(b, 3), red);
        Due.is("ripe of " + b, x.bush(b, 4), ripe);
        Due.is("soft of " + b, x.bush(b, 5), soft);
    }

    private static void dryDays() {
        BerryLane x = Due.lane("l4 5 2;b0 0 0 20 30 6;b0 0 2 20 9 5;b0 0 1 1 4 1;b0 0 3 0 0 0;p0 1 0 0;");
        Due.is("day(1, dry)", x.day(1, false), 29 + 11 + 5);
        berries(x, 0, 15, 29, 9);
        berries(x, 1, 17, 11, 4);
        berries(x, 2, 0, 5, 1);
        berries(x, 3, 0, 0, 0);
        // 15 29 9, 11 28 10, 8 26 10; shaded: 17 11 4, 14 12 4, 12 12 4
        Due.is("day(2, dry)", x.day(2, false), 26 + 12 + 4);
        berries(x, 0, 8, 26, 10);
        berries(x, 1, 12, 12, 4);
        berries(x, 2, 0, 4, 1);
        Due.is("the day", x.told(7), 3);
        Due.is("day(99, dry)", x.day(99, false), x.told(8));
        Due.is("the day", x.told(7), 102);
        BerryLane all = Due.lane("l1 1 1;b0 0 0 10 20 30;b0 0 2 11 20 30;");
        Due.is("all at once", all.day(1, false), 10 + 6);
        berries(all, 0, 0, 10, 20);
        berries(all, 1, 5, 6, 20);
    }

    private static void rainyDays() {
        BerryLane x = Due.lane("l4 5 2;b0 0 0 20 30 6;b0 0 2 20 3 5;");
        Due.is("day(1, rain)", x.day(1, true), 22 + 5);
        berries(x, 0, 15, 22, 7);
        berries(x, 1, 17, 5, 1);
        Due.is("day(2, rain)", x.day(2, true), x.told(8));
        // 22 + 4 - 4 = 22, of which 5 go soft: 17; then 17 + 3 - 3 = 17, of which 4
        berries(x, 0, 8, 13, 4);
    }

    private static void daysRefused() {
        BerryLane none = new BerryLane();
        Due.is("day(0) without a law", none.day(0, false), OUTSIDE);
        Due.is("day(100) without a law", none.day(100, true), OUTSIDE);
        Due.is("day(1) without a law", none.day(1, false), NOT);
        Due.is("drift(0) without a law", none.drift(0), OUTSIDE);
        Due.is("drift(1) without a law", none.drift(1), NOT);
        BerryLane bare = Due.lane("l1 1 1;p0 1 0 0;");
        Due.is("day(1) without bushes", bare.day(1, true), 0);
        Due.is("the day", bare.told(7), 1);
        Due.is("drift(100) without bushes", bare.drift(100), OUTSIDE);
        Due.is("drift(1) without bushes", bare.drift(1), NOT);
        Due.is("the seed of what is refused", bare.seed(0), 0);
        BerryLane x = Due.lane("l1 1 1;b0 0 0 1 1 1;");
        Due.is("day(0)", x.day(0, false), OUTSIDE);
        Due.is("day(-1)", x.day(-1, false), OUTSIDE);
        Due.is("day(100)", x.day(100, false), OUTSIDE);
        Due.is("drift(0)", x.drift(0), OUTSIDE);
        Due.is("drift(100)", x.drift(100), OUTSIDE);
        Due.is("the day", x.told(7), 0);
    }

    /** The draws are worked out here by themselves, and what they lead to is done by the other calls. */
    private static void drifting() {
        String text = "l4 5 2;b10 0 0 20 30 6;b25 1 1 9 40 0;b40 0 3 50 70 3;p10 8 2 0;p0 12 0 1;c30;";
        for (int start : new int[] {0, 1, 9, 12345, 2147483647}) {
            BerryLane drifted = Due.lane(text);
            BerryLane done = Due.lane(text);
            drifted.seed(start);
            Due.is("drift(7)", drifted.drift(7), followDraws(done, start, 7));
            Due.is("the seed", drifted.seed(0), lastSeed);
            for (int b = 0; b < 3; b++) {
                berries(drifted, b, done.bush(b, 3), done.bush(b, 4), done.bush(b, 5));
            }
            for (int p = 0; p < 2; p++) {
                for (int what = 0; what < 8; what++) {
                    Due.is("picker(" + p + ", " + what + ")", drifted.picker(p, what), done.picker(p, what));
                }
            }
            Due.is("the day", drifted.told(7), 7);
        }
        BerryLane longest = Due.lane(text);
        BerryLane done = Due.lane(text);
        Due.is("drift(99)", longest.drift(99), followDraws(done, 0, 99));
        Due.is("the seed", longest.seed(0), lastSeed);
        Due.is("the day", longest.told(7), 99);
        BerryLane alone = Due.lane("l1 1 1;b0 0 0 8 8 8;");
        alone.seed(1);
        alone.drift(1);
        Due.is("one draw a day without pickers", alone.seed(0), 1103527590);
    }

    private static long lastSeed;

    private static int draw(int n) {
        lastSeed = (lastSeed * 1103515245L + 12345L) % 2147483648L;
        return (int) (lastSeed / 65536 % n);
    }

    private static int followDraws(BerryLane x, int start, int days) {
        lastSeed = start;
        int ripe = 0;
        for (int d = 0; d < days; d++) {
            for (int p = 0; p < 2; p++) {
                int b = draw(3);
                x.go(p, b);
                int handfuls = draw(6);
                if (handfuls > 0) {
                    x.pick(p, b, handfuls);
                }
            }
            ripe = x.day(1, draw(4) == 0);
        }
        return ripe;
    }
}
