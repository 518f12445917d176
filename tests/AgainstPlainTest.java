import java.util.ArrayList;
import java.util.List;
import java.util.Random;

/** Runs by chance (the same ones each time), every answer held against the plain lane. */
public final class AgainstPlainTest {
    private static final Random CHANCE = new Random(20261118);

    public static void main(String[] args) {
        for (int i = 0; i < 40000; i++) {
            texts();
        }
        for (int i = 0; i < 400; i++) {
            run();
        }
        Due.end("AgainstPlainTest");
    }

    private static int any(int low, int high) {
        return low + CHANCE.nextInt(high - low + 1);
    }

    private static String numbers(int... bounds) {
        StringBuilder text = new StringBuilder();
        for (int i = 0; i < bounds.length; i += 2) {
            text.append(i == 0 ? "" : " ").append(any(bounds[i], bounds[i + 1]));
        }
        return text.append(';').toString();
    }

    private static String laneText(int bushes, int pickers, int yards, int most) {
        StringBuilder text = new StringBuilder("l").append(numbers(1, 8, 1, 20, 1, 9));
        for (int b = 0; b < bushes; b++) {
            text.append('b').append(numbers(0, yards, 0, 1, 0, 3, 0, most, 0, most, 0, most));
        }
        for (int p = 0; p < pickers; p++) {
            text.append('p').append(numbers(0, yards, 1, 20, 0, any(0, 1) * 9, 0, 1));
        }
        return any(0, 1) == 0 ? text.toString() : text.append('c').append(numbers(1, 200)).toString();
    }

    // ---- texts with something changed in them

    private static void texts() {
        StringBuilder text = new StringBuilder(laneText(any(0, 7), any(0, 5), any(0, 99), any(0, 300)));
        String signs = "lbpc;  0123456789x" + (char) 9 + (char) 233;
        for (int n = any(0, 3); n > 0 && text.length() > 0; n--) {
            int at = any(0, text.length() - 1);
            char sign = signs.charAt(any(0, signs.length() - 1));
            switch (any(0, 3)) {
                case 0 -> text.setCharAt(at, sign);
                case 1 -> text.insert(at, sign);
                case 2 -> text.deleteCharAt(at);
                default -> text.setLength(Math.max(1, at));
            }
        }
        if (text.length() > 230) {
            text.setLength(230);
        }
        PlainLane plain = new PlainLane();
        BerryLane x = new BerryLane();
        Due.feed(x, text.toString());
        boolean right = plain.read(text.toString());
        Due.is("lane() of '" + text + "'", x.lane(), right ? plain.bushes.size() : -10 - plain.faultNumber);
        Due.is("fault() of '" + text + "'", x.fault(), plain.faultPlace);
        Due.is("M of '" + text + "'", x.told(0), right ? plain.m : 0);
        Due.is("can of '" + text + "'", x.told(5), right ? plain.holds : 999);
        Due.is("pickers of '" + text + "'", x.told(4), right ? plain.pickers.size() : 0);
    }

    // ---- runs

    private static BerryLane x;
    private static PlainLane plain;
    private static List<int[]> left;
    private static List<int[]> cans;
    private static List<int[]> book;
    private static String story;

    private static void is(String call, long got, long want) {
        Due.is(story + ": " + call, got, want);
    }

    private static void run() {
        story = laneText(any(1, 6), any(1, 4), any(0, 2) == 0 ? 3 : 99, any(0, 2) == 0 ? 20 : 300);
        if (story.length() > 230) {
            return;
        }
        x = Due.lane(story);
        plain = new PlainLane();
        plain.read(story);
        left = new ArrayList<>();
        cans = new ArrayList<>();
        book = new ArrayList<>();
        plain.seed = any(0, Integer.MAX_VALUE - 1);
        x.seed((int) plain.seed);
        for (int i = 0; i < 40; i++) {
            int p = any(0, plain.pickers.size() - 1);
            int b = any(0, plain.bushes.size() - 1);
            switch (any(0, 3)) {
                case 0 -> act(p, b);
                case 1 -> tryOne(p, b);
                case 2 -> tell(p, b);
                default -> infer(p, b);
            }
            holdAgainst();
        }
    }

    private static void holdAgainst() {
        for (int b = 0; b < plain.bushes.size(); b++) {
            for (int what = 0; what < 6; what++) {
                is("bush(" + b + ", " + what + ")", x.bush(b, what), plain.bushes.get(b)[what]);
            }
        }
        for (int p = 0; p < plain.pickers.size(); p++) {
            for (int what = 0; what < 8; what++) {
                is("picker(" + p + ", " + what + ")", x.picker(p, what), plain.pickers.get(p)[what]);
            }
        }
        is("told(9)", x.told(9), left.size());
        is("told(10)", x.told(10), cans.size());
        is("told(11)", x.told(11), book.size());
    }

    private static void act(int p, int b) {
        int[] picker = plain.pickers.get(p);
        int[] bush = plain.bushes.get(b);
        switch (any(0, 6)) {
            case 0 -> {
                plain.go(picker, bush);
                is("go", x.go(p, b), picker[7]);
            }
            case 1, 2 -> {
                int n = any(1, 6);
                boolean there = picker[0] == bush[0] && picker[1] == bush[1];
                is("pick", x.pick(p, b, n), there ? plain.pick(picker, bush, n) : BerryLane.NOT);
            }
            case 3 -> {
                int is = any(0, 1);
                is("stick", x.stick(p, is == 1), picker[4]);
                picker[4] = is;
            }
            case 4 -> {
                is("pour", x.pour(p), picker[5]);
                picker[5] = 0;
            }
            case 5 -> {
                boolean rain = any(0, 1) == 0;
                is("day", x.day(1, rain), plain.day(rain));
            }
            default -> is("drift", x.drift(1), plain.drift());
        }
    }

    private static void tryOne(int p, int b) {
        int[] picker = plain.pickers.get(p);
        int[] bush = plain.bushes.get(b);
        is("gives", x.gives(p, b), PlainLane.gives(picker, bush));
        is("way", x.way(p, b), PlainLane.moments(picker[0], picker[1], bush));
        int rate = any(0, 20);
        is("length", x.length(p, b, rate), PlainLane.rateLength(picker, bush, rate));
        tryBest(p);
        int h = any(1, 20);
        plain.where(h);
        is("where", x.where(h, -1), plain.whereMost);
        is("where of one", x.where(h, p), plain.whereAt[p]);
        int other = any(0, plain.pickers.size() - 1);
        if (other != p) {
            int[] due = plain.rivals(picker, plain.pickers.get(other), h);
            for (int what = 0; what < 3; what++) {
                is("rivals(" + p + ", " + other + ", " + h + ", " + what + ")", x.rivals(p, other, h, what), due[what]);
            }
        }
        int n = any(1, 30);
        is("again", x.again(b, n, 0), plain.again(bush, n)[0]);
        is("again", x.again(b, n, 1), plain.again(bush, n)[1]);
        int least = any(0, 60);
        int days = any(1, 8);
        int q = any(0, 100);
        is("odds", x.odds(b, least, days, q), plain.odds(bush, least, days, q, 1000000000L));
    }

    /** Few moments where many bushes stand close together: the plain one goes every way there is. */
    private static void tryBest(int p) {
        int t = any(1, plain.bushes.size() <= 3 ? 24 : 10);
        plain.best(plain.pickers.get(p), t);
        is("best(" + p + ", " + t + ")", x.best(p, t, -1, 0), plain.bestMost);
        List<int[]> stops = plain.bestStops;
        for (int i = 0; i <= stops.size(); i++) {
            for (int what = 0; what < 2; what++) {
                int due = i < stops.size() ? stops.get(i)[what] : -1;
                is("best(" + p + ", " + t + ", " + i + ", " + what + ")", x.best(p, t, i, what), due);
            }
        }
        int shorter = Math.min(t, 7);
        int[] due = plain.whom(shorter);
        is("whom", x.whom(shorter, 0), due[0]);
        is("how much more", x.whom(shorter, 1), due[1]);
    }

    private static void tell(int p, int b) {
        int[] picker = plain.pickers.get(p);
        int[] bush = plain.bushes.get(b);
        switch (any(0, 3)) {
            case 0 -> {
                int d = any(0, 9);
                int[] then = bush;
                for (int i = 0; i < d; i++) {
                    then = plain.bushAfter(then, false);
                }
                int ripe = Math.max(0, then[4] - any(0, 3));
                is("left", x.left(b, d, ripe), left.size() < 8 ? left.size() + 1 : BerryLane.FULL);
                if (left.size() < 8) {
                    left.add(new int[] {b, d, ripe});
                }
            }
            case 1 -> {
                int h = any(1, 30);
                int[] who = picker.clone();
                who[3] = any(0, 9);
                int much = PlainLane.sum(PlainLane.toCan(who, bush, h));
                is("can", x.can(p, b, h, much), cans.size() < 8 ? cans.size() + 1 : BerryLane.FULL);
                if (cans.size() < 8) {
                    cans.add(new int[] {p, b, h, much});
                }
            }
            default -> {
                int gave = Math.max(0, PlainLane.gives(picker, bush) - any(0, 4) / 4);
                is("write", x.write(p, b, gave), book.size() < 20 ? book.size() + 1 : BerryLane.FULL);
                if (book.size() < 20) {
                    book.add(new int[] {p, b, gave});
                }
            }
        }
    }

    private static void infer(int p, int b) {
        List<Integer> visits = plain.visited(b, left);
        is("visited", x.visited(b, -1), visits.size());
        int i = any(0, visits.size() + 2);
        is("visited(" + i + ")", x.visited(b, i), i < visits.size() ? visits.get(i) : -1);
        is("eats", x.eats(p), plain.eats(p, cans));
        is("judge", x.judge(), plain.judge(book));
        if (any(0, 9) == 0) {
            is("tear", x.tear(), left.size() + cans.size() + book.size());
            left.clear();
            cans.clear();
            book.clear();
        }
    }
}
