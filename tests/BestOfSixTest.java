import java.util.HashMap;
import java.util.Map;
import java.util.Random;

/**
 * best and whom where many bushes stand close together, up to all 24 moments: there the plain lane
 * has too many ways to go through. Here what is best from a bush on is remembered by where he is,
 * where he has been and how long he has, as it does not depend on how he came there.
 */
public final class BestOfSixTest {
    private static final Random CHANCE = new Random(24);

    /** The most from somewhere on, and the first way that brings it, stop by stop. */
    private record Rest(int most, int bush, int handfuls, Rest then) {
    }

    private static PlainLane plain;
    private static int[] who;
    private static Map<Integer, Rest> known;

    public static void main(String[] args) {
        for (int i = 0; i < 250; i++) {
            lane();
        }
        Due.end("BestOfSixTest");
    }

    private static int any(int low, int high) {
        return low + CHANCE.nextInt(high - low + 1);
    }

    private static int oneOf(int... choices) {
        return choices[CHANCE.nextInt(choices.length)];
    }

    private static String text() {
        int yards = oneOf(0, 4, 11, 24, 60, 99);
        int most = oneOf(3, 8, 30, 100, 300);
        int kinds = oneOf(0, 1, 3);
        int quickest = oneOf(3, 20);
        StringBuilder text = new StringBuilder("l4 5 2;");
        for (int b = any(4, 6); b > 0; b--) {
            text.append("b" + any(0, yards) + " " + any(0, 1) + " " + any(0, kinds) + " 0 " + any(0, most) + " 0;");
        }
        for (int p = 0; p < 4; p++) {
            text.append("p" + any(0, yards) + " " + any(1, quickest) + " " + any(0, oneOf(0, 3, 9)) + " " + any(0, 1) + ";");
        }
        return text.toString();
    }

    private static void lane() {
        String text = text();
        BerryLane x = Due.lane(text);
        plain = new PlainLane();
        Due.is("the plain lane reads " + text, plain.read(text) ? 1 : 0, 1);
        Due.sentence("BEST WAY of a PICKER in t MOMENTS (1 .. 24) on " + text);
        int t = oneOf(24, any(1, 24));
        int mostMore = -1;
        int forWhom = -1;
        for (int p = 0; p < plain.pickers.size(); p++) {
            Rest due = bestOf(plain.pickers.get(p), t);
            holdStops(x, p, t, due);
            int[] withStick = plain.pickers.get(p).clone();
            withStick[4] = 1;
            int more = bestOf(withStick, t).most - due.most;
            if (more > mostMore) {
                mostMore = more;
                forWhom = p;
            }
        }
        Due.sentence("STICK: who, if he reached high, would have most more in his BEST WAY on " + text);
        Due.is("whom(" + t + ", 0)", x.whom(t, 0), forWhom);
        Due.is("whom(" + t + ", 1)", x.whom(t, 1), mostMore);
    }

    private static void holdStops(BerryLane x, int p, int t, Rest due) {
        Due.is("best(" + p + ", " + t + ", NONE, 0)", x.best(p, t, BerryLane.NONE, 0), due.most);
        Rest rest = due;
        for (int i = 0; i < 7; i++) {
            boolean goesOn = rest != null && rest.bush >= 0;
            Due.is("best(" + p + ", " + t + ", " + i + ", 0)", x.best(p, t, i, 0), goesOn ? rest.bush : BerryLane.NONE);
            Due.is("best(" + p + ", " + t + ", " + i + ", 1)", x.best(p, t, i, 1), goesOn ? rest.handfuls : BerryLane.NONE);
            rest = goesOn ? rest.then : null;
        }
    }

    private static Rest bestOf(int[] picker, int t) {
        who = picker;
        known = new HashMap<>();
        return bestFrom(-1, 0, t);
    }

    private static Rest bestFrom(int at, int been, int t) {
        int key = ((at + 1) * 64 + been) * 25 + t;
        Rest best = known.get(key);
        if (best == null) {
            best = search(at, been, t);
            known.put(key, best);
        }
        return best;
    }

    private static Rest search(int at, int been, int t) {
        Rest best = new Rest(0, -1, 0, null);
        int[] from = at < 0 ? who : plain.bushes.get(at);
        for (int b = 0; b < plain.bushes.size(); b++) {
            if ((been >> b & 1) == 1) {
                continue;
            }
            int[] bush = plain.bushes.get(b);
            int cost = bush[2] == 3 ? 2 : 1;
            int rest = t - PlainLane.moments(from[0], from[1], bush);
            int[] toCan = PlainLane.toCan(who, bush, 24);
            int has = 0;
            for (int h = 1; h * cost <= rest; h++) {
                has += toCan[h - 1];
                Rest then = bestFrom(b, been | 1 << b, rest - h * cost);
                if (has + then.most > best.most) {
                    best = new Rest(has + then.most, b, h, then);
                }
            }
        }
        return best;
    }
}
