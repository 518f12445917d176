import java.util.List;
import java.util.Random;

/** No call throws or hangs, whatever its arguments and the state; and what is refused changes nothing. */
public final class AnyArgumentsTest {
    private static final Random CHANCE = new Random(7);
    private static final int[] EDGES = {
        Integer.MIN_VALUE, Integer.MIN_VALUE + 1, -1000000001, -2, -1, 0, 1, 2, 3, 4, 5, 6, 7, 8, 9, 10, 11, 12, 20, 21,
        24, 25, 30, 31, 60, 61, 99, 100, 255, 256, 999, 1000, Integer.MAX_VALUE - 1, Integer.MAX_VALUE};
    private static final String[] TEXTS = {
        "", "l1 1 1;", "l20 20 20;p0 1 0 0;", "l1 1 1;b0 0 0 300 300 300;",
        "l4 5 2;b10 0 0 20 30 6;b25 1 1 9 40 0;b40 0 2 50 7 3;b90 1 3 0 60 10;p10 8 2 0;p0 12 0 1;p99 5 9 0;c40;",
        "l1 1 1;b0 0 0 0 300 0;b0 0 1 0 300 0;b0 0 2 0 300 0;b0 0 3 0 300 0;b0 0 0 0 300 0;b0 0 0 0 300 0;"
            + "p0 20 0 0;p0 20 9 0;p0 1 0 1;p0 7 7 1;",
        "l1 1 1;b0 0 0 0 0 0;p0 20 0 0;p0 20 9 0;p0 1 0 1;p0 7 7 1;c1;"};

    public static void main(String[] args) {
        for (int i = 0; i < 600; i++) {
            BerryLane x = new BerryLane();
            Due.feed(x, TEXTS[i % TEXTS.length]);
            x.lane();
            for (int k = 0; k < 250; k++) {
                List<Integer> before = Look.at(x);
                int answer = call(x, CHANCE.nextInt(31));
                if (answer <= BerryLane.UNKNOWN && answer >= BerryLane.FULL) {
                    Look.same("what is refused changes nothing", Look.at(x), before);
                } else {
                    Due.is("an answer is no smaller than -13: " + answer, answer >= -13 ? 1 : 0, 1);
                }
            }
        }
        Due.end("AnyArgumentsTest");
    }

    private static int any() {
        return CHANCE.nextInt(3) == 0 ? EDGES[CHANCE.nextInt(EDGES.length)] : CHANCE.nextInt(7);
    }

    private static int call(BerryLane x, int which) {
        boolean is = CHANCE.nextBoolean();
        switch (which) {
            case 0: return x.feed(any());
            case 1: return CHANCE.nextInt(20) == 0 ? x.lane() : x.fault();
            case 2: return x.told(any());
            case 3: return x.bush(any(), any());
            case 4: return x.picker(any(), any());
            case 5: return x.gives(any(), any());
            case 6: return x.way(any(), any());
            case 7: return x.go(any(), any());
            case 8: return x.pick(any(), any(), any());
            case 9: return x.stick(any(), is);
            case 10: return x.pour(any());
            case 11: return x.day(any(), is);
            case 12: return x.drift(any());
            case 13: return x.length(any(), any(), any());
            case 14: return x.best(any(), any(), any(), any());
            case 15: return x.where(any(), any());
            case 16: return x.rivals(any(), any(), any(), any());
            case 17: return x.again(any(), any(), any());
            case 18: return x.odds(any(), any(), any(), any());
            case 19: return x.whom(any(), any());
            case 20: return x.left(any(), any(), any());
            case 21: return x.visited(any(), any());
            case 22: return x.can(any(), any(), any(), any());
            case 23: return x.eats(any());
            case 24: return x.write(any(), any(), any());
            case 25: return x.judge();
            case 26: return x.tear();
            case 27: {
                int before = x.seed(any());
                return before > 0 ? 0 : before;
            }
            case 28: return x.keep(any());
            case 29: return x.goBack(any());
            default: return x.best(CHANCE.nextInt(4), 24, CHANCE.nextInt(6), CHANCE.nextInt(2));
        }
    }
}
