import java.util.ArrayList;
import java.util.List;

/**
 * The document once more, as plainly as it can be said and by other means than the class: every
 * way, place and row of days is gone through whole. Slow, and for well-formed arguments only.
 */
final class PlainLane {
    int m;
    int r;
    int s;
    int holds;
    List<int[]> bushes = new ArrayList<>(); // yard, side, kind, red, ripe, soft
    List<int[]> pickers = new ArrayList<>(); // yard, side, Q, E, high, can, eaten, clock
    int faultNumber;
    int faultPlace;
    long seed;

    // ---- the text

    private record Token(char sign, String figures, int place) {
    }

    private static List<Token> tokens(String text) {
        List<Token> list = new ArrayList<>();
        int i = 0;
        while (i < text.length()) {
            char c = text.charAt(i);
            int from = i;
            while (i < text.length() && Character.isDigit(text.charAt(i)) && text.charAt(i) < 128) {
                i++;
            }
            if (i > from) {
                list.add(new Token('#', text.substring(from, i), from));
            } else {
                if (c != ' ') {
                    list.add(new Token(c == '#' ? '?' : c, "", from));
                }
                i++;
            }
        }
        list.add(new Token('$', "", text.length()));
        return list;
    }

    private boolean fail(int number, Token at) {
        faultNumber = number;
        faultPlace = at.place;
        return false;
    }

    private static final String[] BOUNDS = {
        "l 1-20 1-20 1-20", "b 0-99 0-1 0-3 0-300 0-300 0-300", "p 0-99 1-20 0-9 0-1", "c 1-999"};

    /** Whether the text is without a fault; then it is what this lane is. */
    boolean read(String text) {
        List<Token> list = tokens(text);
        int at = 0;
        faultNumber = 0;
        faultPlace = -1;
        m = r = s = 0;
        holds = 999;
        bushes = new ArrayList<>();
        pickers = new ArrayList<>();
        List<Character> words = new ArrayList<>();
        while (list.get(at).place < text.length()) {
            Token word = list.get(at++);
            if ("lbpc".indexOf(word.sign) < 0 || words.isEmpty() && word.sign != 'l') {
                return fail(1, word);
            }
            long before = words.stream().filter(w -> w == word.sign).count();
            if (before >= (word.sign == 'b' ? 6 : word.sign == 'p' ? 4 : 1)) {
                return fail(3, word);
            }
            words.add(word.sign);
            String[] parts = BOUNDS["lbpc".indexOf(word.sign)].split(" ");
            int[] numbers = new int[parts.length - 1];
            for (int k = 1; k < parts.length; k++) {
                Token number = list.get(at++);
                if (number.sign != '#') {
                    return fail(1, number);
                }
                String[] bounds = parts[k].split("-");
                if (number.figures.length() > 3
                        || Integer.parseInt(number.figures) < Integer.parseInt(bounds[0])
                        || Integer.parseInt(number.figures) > Integer.parseInt(bounds[1])) {
                    return fail(2, number);
                }
                numbers[k - 1] = Integer.parseInt(number.figures);
            }
            if (list.get(at).sign != ';') {
                return fail(1, list.get(at));
            }
            at++;
            accept(word.sign, numbers);
        }
        return true;
    }

    private void accept(char word, int[] n) {
        switch (word) {
            case 'l' -> {
                m = n[0];
                r = n[1];
                s = n[2];
            }
            case 'b' -> bushes.add(n);
            case 'p' -> pickers.add(new int[] {n[0], 0, n[1], n[2], n[3], 0, 0, 0});
            default -> holds = n[0];
        }
    }

    // ---- what is done

    static int gives(int[] picker, int[] bush) {
        int least = Math.min(picker[2], (bush[4] + 4) / 5);
        return bush[2] == 1 && picker[4] == 0 ? least / 2 : least;
    }

    static int moments(int yard, int side, int[] bush) {
        double seconds = Math.abs(yard - bush[0]) + (side == bush[1] ? 0 : 3);
        return (int) Math.ceil(seconds / 10);
    }

    void go(int[] picker, int[] bush) {
        picker[7] += moments(picker[0], picker[1], bush);
        picker[0] = bush[0];
        picker[1] = bush[1];
    }

    int pick(int[] picker, int[] bush, int n) {
        int sum = 0;
        for (int i = 0; i < n; i++) {
            int gave = gives(picker, bush);
            bush[4] -= gave;
            int eats = Math.min(picker[3], gave);
            picker[6] += eats;
            picker[5] = Math.min(holds, picker[5] + gave - eats);
            picker[7] += bush[2] == 3 ? 2 : 1;
            sum += gave;
        }
        return sum;
    }

    int[] bushAfter(int[] bush, boolean rain) {
        int part = bush[2] == 2 ? 2 * m : m;
        int ripens = bush[3] / part + (bush[3] % part == 0 ? 0 : 1);
        int softens = bush[4] / r;
        int falls = bush[5] / s;
        int ripe = bush[4] - softens + ripens;
        int soft = bush[5] - falls + softens;
        if (rain) {
            soft = ripe / 4;
            ripe -= soft;
        }
        return new int[] {bush[0], bush[1], bush[2], bush[3] - ripens, ripe, soft};
    }

    int day(boolean rain) {
        int sum = 0;
        for (int b = 0; b < bushes.size(); b++) {
            bushes.set(b, bushAfter(bushes.get(b), rain));
            sum += bushes.get(b)[4];
        }
        for (int[] p : pickers) {
            p[7] = 0;
        }
        return sum;
    }

    private int draw(int n) {
        seed = (seed * 1103515245L + 12345) % (1L << 31);
        return (int) (seed / 65536 % n);
    }

    int drift() {
        for (int[] p : pickers) {
            int[] bush = bushes.get(draw(bushes.size()));
            go(p, bush);
            pick(p, bush, draw(6));
        }
        return day(draw(4) == 0);
    }

    // ---- tried

    /** What comes to the can of each handful, one behind the other. */
    static int[] toCan(int[] picker, int[] bush, int h) {
        int[] copy = bush.clone();
        int[] row = new int[h];
        for (int i = 0; i < h; i++) {
            int gave = gives(picker, copy);
            copy[4] -= gave;
            row[i] = Math.max(0, gave - picker[3]);
        }
        return row;
    }

    static int sum(int[] row) {
        int sum = 0;
        for (int x : row) {
            sum += x;
        }
        return sum;
    }

    static int rateLength(int[] picker, int[] bush, int rate) {
        int[] row = toCan(picker, bush, 60);
        int moments = bush[2] == 3 ? 2 : 1;
        for (int i = 0; i < 60; i++) {
            if (row[i] <= rate * moments) {
                return i;
            }
        }
        return 60;
    }

    int bestMost;
    List<int[]> bestStops;

    void best(int[] picker, int t) {
        bestMost = -1;
        List<int[]> gains = new ArrayList<>();
        for (int[] bush : bushes) {
            gains.add(toCan(picker, bush, 24));
        }
        walk(gains, picker[0], picker[1], t, 0, new ArrayList<>());
    }

    private void walk(List<int[]> gains, int yard, int side, int t, int has, List<int[]> stops) {
        if (has > bestMost) {
            bestMost = has;
            bestStops = new ArrayList<>(stops);
        }
        for (int b = 0; b < bushes.size(); b++) {
            final int bush = b;
            if (stops.stream().anyMatch(stop -> stop[0] == bush)) {
                continue;
            }
            int[] there = bushes.get(b);
            int cost = there[2] == 3 ? 2 : 1;
            int rest = t - moments(yard, side, there);
            int more = 0;
            for (int h = 1; h * cost <= rest; h++) {
                more += gains.get(b)[h - 1];
                stops.add(new int[] {b, h});
                walk(gains, there[0], there[1], rest - h * cost, has + more, stops);
                stops.remove(stops.size() - 1);
            }
        }
    }

    int whereMost;
    int[] whereAt;

    void where(int h) {
        whereMost = -1;
        place(h, 0, new int[pickers.size()], 0);
    }

    private void place(int h, int p, int[] at, int has) {
        if (p == pickers.size()) {
            if (has > whereMost) {
                whereMost = has;
                whereAt = at.clone();
            }
            return;
        }
        for (int b = 0; b < bushes.size(); b++) {
            boolean free = true;
            for (int k = 0; k < p; k++) {
                free &= at[k] != b;
            }
            if (free) {
                at[p] = b;
                place(h, p + 1, at, has + sum(toCan(pickers.get(p), bushes.get(b), h)));
            }
        }
        if (bushes.size() < pickers.size()) {
            at[p] = -1;
            place(h, p + 1, at, has);
        }
    }

    private int[] haveBoth(int[] a, int[] b, int h, int atA, int atB) {
        if (atA != atB) {
            return new int[] {sum(toCan(a, bushes.get(atA), h)), sum(toCan(b, bushes.get(atB), h))};
        }
        int[] copy = bushes.get(atA).clone();
        int[] has = new int[2];
        for (int i = 0; i < 2 * h; i++) {
            int[] who = i % 2 == 0 ? a : b;
            int gave = gives(who, copy);
            copy[4] -= gave;
            has[i % 2] += Math.max(0, gave - who[3]);
        }
        return has;
    }

    /** Turns that changed something, where a is, where b is. */
    int[] rivals(int[] a, int[] b, int h) {
        int[] at = {0, 0};
        int changes = 0;
        boolean[] changed = new boolean[17];
        for (int turn = 1; turn <= 16; turn++) {
            int who = turn % 2 == 1 ? 0 : 1;
            int best = -1;
            int most = -1;
            for (int x = 0; x < bushes.size(); x++) {
                int has = haveBoth(a, b, h, who == 0 ? x : at[0], who == 1 ? x : at[1])[who];
                if (has > most) {
                    most = has;
                    best = x;
                }
            }
            changed[turn] = best != at[who];
            changes += changed[turn] ? 1 : 0;
            at[who] = best;
            if (turn > 1 && !changed[turn] && !changed[turn - 1]) {
                break;
            }
        }
        return changed[16] ? new int[] {-1, -1, -1} : new int[] {changes, at[0], at[1]};
    }

    int[] again(int[] bush, int n) {
        int[] best = {0, bush[4]};
        for (int d = 1; d <= n; d++) {
            bush = bushAfter(bush, false);
            if (bush[4] > best[1]) {
                best = new int[] {d, bush[4]};
            }
        }
        return best;
    }

    long odds(int[] bush, int least, int n, int q, long part) {
        if (n == 0) {
            return bush[4] >= least ? part : 0;
        }
        long rainy = part * q / 100;
        return odds(bushAfter(bush, true), least, n - 1, q, rainy) + odds(bushAfter(bush, false), least, n - 1, q, part - rainy);
    }

    int[] whom(int t) {
        int[] due = {-1, -1};
        for (int p = 0; p < pickers.size(); p++) {
            int[] with = pickers.get(p).clone();
            with[4] = 1;
            best(with, t);
            int more = bestMost;
            best(pickers.get(p), t);
            more -= bestMost;
            if (due[0] < 0 || more > due[1]) {
                due = new int[] {p, more};
            }
        }
        return due;
    }

    // ---- what was seen; rows as they were told

    List<Integer> visited(int b, List<int[]> left) {
        List<Integer> list = new ArrayList<>();
        for (int v = 0; v <= 9; v++) {
            for (int y = 1; y <= 99; y++) {
                int[] bush = bushes.get(b);
                boolean so = true;
                for (int d = 0; d <= 9; d++) {
                    if (d == v) {
                        so &= bush[4] >= y;
                        bush = bush.clone();
                        bush[4] -= y;
                    }
                    for (int[] told : left) {
                        so &= told[0] != b || told[1] != d || told[2] == bush[4];
                    }
                    bush = bushAfter(bush, false);
                }
                if (so) {
                    list.add(100 * v + y);
                }
            }
        }
        return list;
    }

    int eats(int p, List<int[]> cans) {
        int set = 0;
        for (int e = 0; e <= 9; e++) {
            int[] who = pickers.get(p).clone();
            who[3] = e;
            boolean so = true;
            for (int[] told : cans) {
                so &= told[0] != p || sum(toCan(who, bushes.get(told[1]), told[2])) == told[3];
            }
            set += so ? 1 << e : 0;
        }
        return set;
    }

    int judge(List<int[]> book) {
        List<int[]> copies = new ArrayList<>();
        for (int[] bush : bushes) {
            copies.add(bush.clone());
        }
        for (int i = 0; i < book.size(); i++) {
            int[] told = book.get(i);
            int gave = gives(pickers.get(told[0]), copies.get(told[1]));
            if (gave != told[2]) {
                return i;
            }
            copies.get(told[1])[4] -= gave;
        }
        return -1;
    }
}
