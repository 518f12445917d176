import java.util.Arrays;

/**
 * Blackberries along a lane: the bushes, those who pick, what is done there, and what may be
 * tried from now on. Every row is made in a constructor and used again: no call makes an object.
 */
public final class BerryLane {
    public static final int NONE = -1, UNKNOWN = -1000000001, OUTSIDE = -1000000002, NOT = -1000000003, FULL = -1000000004;

    private static final int MOST_BUSHES = 6;
    private static final int MOST_PICKERS = 4;
    private static final int MOST_IMAGES = 2;
    private static final int MOST_LETTERS = 230;
    private static final int MOST_LEFT = 8;
    private static final int MOST_CANS = 8;
    private static final int MOST_ENTRIES = 20;
    private static final int MOST_MOMENTS = 24;
    private static final int MOST_EATEN = 999999;
    private static final int MOST_APPETITE = 9;
    private static final int MOST_HANDFULS = 60;
    private static final int UNTOLD_CAN = 999;
    private static final int BILLION = 1000000000;

    private static final int HIGH = 1;
    private static final int SHADED = 2;
    private static final int WASPY = 3;

    private final Reader reader = new Reader();
    private final Lane now = new Lane();
    private final Lane[] images = new Lane[MOST_IMAGES];
    private final boolean[] kept = new boolean[MOST_IMAGES];
    private final BestWay bestWay = new BestWay();
    private final Places places = new Places();
    private final Contest contest = new Contest();
    private final Seen seen = new Seen();
    private final Bush triedBush = new Bush();
    private final Picker triedPicker = new Picker();
    private int faultPlace = NONE;

    public BerryLane() {
        for (int i = 0; i < MOST_IMAGES; i++) {
            images[i] = new Lane();
        }
    }

    // ---- the lane

    public int feed(int letter) {
        if (!within(letter, 0, 255)) {
            return OUTSIDE;
        }
        return reader.isFull() ? FULL : reader.append((char) letter);
    }

    public int lane() {
        int fault = reader.readAll();
        faultPlace = reader.faultPlace;
        if (fault != 0) {
            return -10 - fault;
        }
        now.startAs(reader.draft);
        seen.clearAll();
        for (int i = 0; i < MOST_IMAGES; i++) {
            kept[i] = false;
        }
        return now.bushCount;
    }

    public int fault() {
        return faultPlace;
    }

    public int told(int what) {
        switch (what) {
            case 0: return now.law.ripening;
            case 1: return now.law.softening;
            case 2: return now.law.falling;
            case 3: return now.bushCount;
            case 4: return now.pickerCount;
            case 5: return now.law.canHolds;
            case 6: return reader.size;
            case 7: return now.dayNumber;
            case 8: return now.ripeInAll();
            case 9: return seen.remains.size;
            case 10: return seen.cans.size;
            case 11: return seen.book.size;
            default: return OUTSIDE;
        }
    }

    public int bush(int b, int what) {
        if (!isBush(b)) {
            return UNKNOWN;
        }
        Bush bush = now.bushes[b];
        switch (what) {
            case 0: return bush.yard;
            case 1: return bush.side;
            case 2: return bush.kind;
            case 3: return bush.red;
            case 4: return bush.ripe;
            case 5: return bush.soft;
            default: return OUTSIDE;
        }
    }

    public int picker(int p, int what) {
        if (!isPicker(p)) {
            return UNKNOWN;
        }
        Picker picker = now.pickers[p];
        switch (what) {
            case 0: return picker.yard;
            case 1: return picker.side;
            case 2: return picker.quickness;
            case 3: return picker.appetite;
            case 4: return picker.reachesHigh ? 1 : 0;
            case 5: return picker.inCan;
            case 6: return picker.eaten;
            case 7: return picker.clock;
            default: return OUTSIDE;
        }
    }

    public int gives(int p, int b) {
        if (!isPicker(p) || !isBush(b)) {
            return UNKNOWN;
        }
        return now.pickers[p].wouldGet(now.bushes[b]);
    }

    public int way(int p, int b) {
        if (!isPicker(p) || !isBush(b)) {
            return UNKNOWN;
        }
        return now.pickers[p].momentsTo(now.bushes[b]);
    }

    // ---- what is done

    public int go(int p, int b) {
        if (!isPicker(p) || !isBush(b)) {
            return UNKNOWN;
        }
        now.pickers[p].walkTo(now.bushes[b]);
        return now.pickers[p].clock;
    }

    public int pick(int p, int b, int n) {
        if (!isPicker(p) || !isBush(b)) {
            return UNKNOWN;
        }
        if (!within(n, 1, MOST_HANDFULS)) {
            return OUTSIDE;
        }
        Picker picker = now.pickers[p];
        Bush bush = now.bushes[b];
        return picker.isAt(bush) ? picker.takeHandfuls(bush, n, now.law.canHolds) : NOT;
    }

    public int stick(int p, boolean is) {
        if (!isPicker(p)) {
            return UNKNOWN;
        }
        int before = now.pickers[p].reachesHigh ? 1 : 0;
        now.pickers[p].reachesHigh = is;
        return before;
    }

    public int pour(int p) {
        if (!isPicker(p)) {
            return UNKNOWN;
        }
        int before = now.pickers[p].inCan;
        now.pickers[p].inCan = 0;
        return before;
    }

    public int day(int n, boolean rain) {
        if (!within(n, 1, 99)) {
            return OUTSIDE;
        }
        if (!now.law.isTold()) {
            return NOT;
        }
        for (int i = 0; i < n; i++) {
            now.passDay(rain);
        }
        return now.ripeInAll();
    }

    public int drift(int n) {
        if (!within(n, 1, 99)) {
            return OUTSIDE;
        }
        if (!now.law.isTold() || now.bushCount == 0) {
            return NOT;
        }
        for (int i = 0; i < n; i++) {
            now.passDayByDraws();
        }
        return now.ripeInAll();
    }

    // ---- tried

    public int length(int p, int b, int r) {
        if (!isPicker(p) || !isBush(b)) {
            return UNKNOWN;
        }
        if (!within(r, 0, 20)) {
            return OUTSIDE;
        }
        triedBush.copyFrom(now.bushes[b]);
        int least = r * triedBush.handfulMoments();
        int handfuls = 0;
        while (handfuls < MOST_HANDFULS && now.pickers[p].tryHandful(triedBush) > least) {
            handfuls++;
        }
        return handfuls;
    }

    public int best(int p, int t, int i, int what) {
        if (!isPicker(p)) {
            return UNKNOWN;
        }
        if (!within(t, 1, MOST_MOMENTS) || !within(what, 0, 1)) {
            return OUTSIDE;
        }
        int most = bestWay.findMost(now, now.pickers[p], t);
        if (i == NONE) {
            return most;
        }
        bestWay.findStops(t);
        if (!within(i, 0, bestWay.stops - 1)) {
            return NONE;
        }
        return what == 0 ? bestWay.stopBush[i] : bestWay.stopHandfuls[i];
    }

    public int where(int h, int p) {
        if (p != NONE && !isPicker(p)) {
            return UNKNOWN;
        }
        if (!within(h, 1, 20)) {
            return OUTSIDE;
        }
        places.findFor(now, h);
        return p == NONE ? places.most : places.bushOf(p);
    }

    public int rivals(int a, int b, int h, int what) {
        if (!isPicker(a) || !isPicker(b) || a == b) {
            return UNKNOWN;
        }
        if (!within(h, 1, 20) || !within(what, 0, 2)) {
            return OUTSIDE;
        }
        if (now.bushCount == 0) {
            return NOT;
        }
        contest.playOut(now, a, b, h);
        if (!contest.settled) {
            return NONE;
        }
        if (what == 0) {
            return contest.changes;
        }
        return what == 1 ? contest.bushOfA : contest.bushOfB;
    }

    public int again(int b, int n, int what) {
        if (!isBush(b)) {
            return UNKNOWN;
        }
        if (!within(n, 1, 30) || !within(what, 0, 1)) {
            return OUTSIDE;
        }
        triedBush.copyFrom(now.bushes[b]);
        int bestDay = 0;
        int mostRipe = triedBush.ripe;
        for (int days = 1; days <= n; days++) {
            triedBush.passDay(now.law, false);
            if (triedBush.ripe > mostRipe) {
                bestDay = days;
                mostRipe = triedBush.ripe;
            }
        }
        return what == 0 ? bestDay : mostRipe;
    }

    public int odds(int b, int m, int n, int q) {
        if (!isBush(b)) {
            return UNKNOWN;
        }
        if (!within(m, 0, 999) || !within(n, 1, 8) || !within(q, 0, 100)) {
            return OUTSIDE;
        }
        int sum = 0;
        for (int rainyDays = 0; rainyDays < 1 << n; rainyDays++) {
            int part = partOfRow(rainyDays, n, q);
            if (ripeAfterRow(now.bushes[b], rainyDays, n) >= m) {
                sum += part;
            }
        }
        return sum;
    }

    public int whom(int t, int what) {
        if (!within(t, 1, MOST_MOMENTS) || !within(what, 0, 1)) {
            return OUTSIDE;
        }
        if (now.pickerCount == 0) {
            return NONE;
        }
        int who = 0;
        int mostMore = moreByStick(now.pickers[0], t);
        for (int p = 1; p < now.pickerCount; p++) {
            int more = moreByStick(now.pickers[p], t);
            if (more > mostMore) {
                who = p;
                mostMore = more;
            }
        }
        return what == 0 ? who : mostMore;
    }

    // ---- what was seen

    public int left(int b, int d, int ripe) {
        if (!isBush(b)) {
            return UNKNOWN;
        }
        if (!within(d, 0, 9) || !within(ripe, 0, 999)) {
            return OUTSIDE;
        }
        return seen.remains.isFull() ? FULL : seen.remains.append(NONE, b, d, ripe);
    }

    public int visited(int b, int i) {
        if (!isBush(b)) {
            return UNKNOWN;
        }
        int visits = seen.findVisits(now, b, i);
        return i == NONE ? visits : seen.soughtVisit;
    }

    public int can(int p, int b, int h, int much) {
        if (!isPicker(p) || !isBush(b)) {
            return UNKNOWN;
        }
        if (!within(h, 1, 30) || !within(much, 0, 999)) {
            return OUTSIDE;
        }
        return seen.cans.isFull() ? FULL : seen.cans.append(p, b, h, much);
    }

    public int eats(int p) {
        return isPicker(p) ? seen.appetitesOf(now, p) : UNKNOWN;
    }

    public int write(int p, int b, int gave) {
        if (!isPicker(p) || !isBush(b)) {
            return UNKNOWN;
        }
        if (!within(gave, 0, 20)) {
            return OUTSIDE;
        }
        return seen.book.isFull() ? FULL : seen.book.append(p, b, 1, gave);
    }

    public int judge() {
        return seen.firstWrong(now);
    }

    public int tear() {
        return seen.clearAll();
    }

    // ---- draws, images

    public int seed(int v) {
        if (v < 0) {
            return OUTSIDE;
        }
        int before = now.seed;
        now.seed = v;
        return before;
    }

    public int keep(int i) {
        if (!within(i, 0, MOST_IMAGES - 1)) {
            return UNKNOWN;
        }
        images[i].copyFrom(now);
        kept[i] = true;
        return 1;
    }

    public int goBack(int i) {
        if (!within(i, 0, MOST_IMAGES - 1)) {
            return UNKNOWN;
        }
        if (!kept[i]) {
            return NOT;
        }
        now.copyFrom(images[i]);
        return 1;
    }

    private static boolean within(int number, int low, int high) {
        return number >= low && number <= high;
    }

    private boolean isBush(int b) {
        return within(b, 0, now.bushCount - 1);
    }

    private boolean isPicker(int p) {
        return within(p, 0, now.pickerCount - 1);
    }

    /** What of a billion falls to one row of days; bit k of the set says whether day k is rainy. */
    private static int partOfRow(int rainyDays, int days, int chance) {
        int part = BILLION;
        for (int k = 0; k < days; k++) {
            int rainyPart = (int) ((long) part * chance / 100);
            part = (rainyDays >> k & 1) == 1 ? rainyPart : part - rainyPart;
        }
        return part;
    }

    private int ripeAfterRow(Bush bush, int rainyDays, int days) {
        triedBush.copyFrom(bush);
        for (int k = 0; k < days; k++) {
            triedBush.passDay(now.law, (rainyDays >> k & 1) == 1);
        }
        return triedBush.ripe;
    }

    private int moreByStick(Picker picker, int moments) {
        if (picker.reachesHigh) {
            return 0;
        }
        triedPicker.copyFrom(picker);
        triedPicker.reachesHigh = true;
        return bestWay.findMost(now, triedPicker, moments) - bestWay.findMost(now, picker, moments);
    }

    /** How berries ripen, soften and fall, and what a can holds. */
    private static final class Law {
        int ripening;
        int softening;
        int falling;
        int canHolds = UNTOLD_CAN;

        void copyFrom(Law other) {
            ripening = other.ripening;
            softening = other.softening;
            falling = other.falling;
            canHolds = other.canHolds;
        }

        void forget() {
            ripening = 0;
            softening = 0;
            falling = 0;
            canHolds = UNTOLD_CAN;
        }

        /** None of the three is 0 then, so that all of them may divide. */
        boolean isTold() {
            return ripening > 0 && softening > 0 && falling > 0;
        }
    }

    private static final class Bush {
        int yard;
        int side;
        int kind;
        int red;
        int ripe;
        int soft;

        void copyFrom(Bush other) {
            yard = other.yard;
            side = other.side;
            kind = other.kind;
            red = other.red;
            ripe = other.ripe;
            soft = other.soft;
        }

        int handfulMoments() {
            return kind == WASPY ? 2 : 1;
        }

        int momentsFrom(int fromYard, int fromSide) {
            int seconds = Math.abs(fromYard - yard) + (fromSide == side ? 0 : 3);
            return (seconds + 9) / 10;
        }

        void passDay(Law law, boolean rain) {
            if (!law.isTold()) {
                return;
            }
            int redPart = kind == SHADED ? 2 * law.ripening : law.ripening;
            int ripens = (red + redPart - 1) / redPart;
            int softens = ripe / law.softening;
            int falls = soft / law.falling;
            red -= ripens;
            ripe += ripens - softens;
            soft += softens - falls;
            if (rain) {
                soft = ripe / 4;
                ripe -= soft;
            }
        }
    }

    private static final class Picker {
        int yard;
        int side;
        int quickness;
        int appetite;
        boolean reachesHigh;
        int inCan;
        int eaten;
        int clock;

        void copyFrom(Picker other) {
            yard = other.yard;
            side = other.side;
            quickness = other.quickness;
            appetite = other.appetite;
            reachesHigh = other.reachesHigh;
            inCan = other.inCan;
            eaten = other.eaten;
            clock = other.clock;
        }

        int wouldGet(Bush bush) {
            int handful = Math.min(quickness, (bush.ripe + 4) / 5);
            return bush.kind == HIGH && !reachesHigh ? handful / 2 : handful;
        }

        int momentsTo(Bush bush) {
            return bush.momentsFrom(yard, side);
        }

        boolean isAt(Bush bush) {
            return yard == bush.yard && side == bush.side;
        }

        void walkTo(Bush bush) {
            clock += momentsTo(bush);
            yard = bush.yard;
            side = bush.side;
        }

        int takeHandfuls(Bush bush, int handfuls, int canHolds) {
            int sum = 0;
            for (int i = 0; i < handfuls; i++) {
                int gave = wouldGet(bush);
                int swallowed = Math.min(appetite, gave);
                bush.ripe -= gave;
                eaten = Math.min(eaten + swallowed, MOST_EATEN);
                inCan = Math.min(inCan + gave - swallowed, canHolds);
                clock += bush.handfulMoments();
                sum += gave;
            }
            return sum;
        }

        /** A handful off a bush that is only tried: what would come to a can that has no end. */
        int tryHandful(Bush tried) {
            int gave = wouldGet(tried);
            tried.ripe -= gave;
            return gave - Math.min(appetite, gave);
        }

        int tryHandfuls(Bush tried, int handfuls) {
            int sum = 0;
            for (int i = 0; i < handfuls; i++) {
                sum += tryHandful(tried);
            }
            return sum;
        }
    }

    /** All that an image keeps; what is so now is one, and so is what a text tells. */
    private static final class Lane {
        final Law law = new Law();
        final Bush[] bushes = new Bush[MOST_BUSHES];
        final Picker[] pickers = new Picker[MOST_PICKERS];
        int bushCount;
        int pickerCount;
        int dayNumber;
        int seed;

        Lane() {
            for (int b = 0; b < MOST_BUSHES; b++) {
                bushes[b] = new Bush();
            }
            for (int p = 0; p < MOST_PICKERS; p++) {
                pickers[p] = new Picker();
            }
        }

        void copyFrom(Lane other) {
            startAs(other);
            seed = other.seed;
        }

        /** All but the seed, which outlasts a lane. */
        void startAs(Lane other) {
            law.copyFrom(other.law);
            bushCount = other.bushCount;
            pickerCount = other.pickerCount;
            dayNumber = other.dayNumber;
            for (int b = 0; b < MOST_BUSHES; b++) {
                bushes[b].copyFrom(other.bushes[b]);
            }
            for (int p = 0; p < MOST_PICKERS; p++) {
                pickers[p].copyFrom(other.pickers[p]);
            }
        }

        void forget() {
            law.forget();
            bushCount = 0;
            pickerCount = 0;
            dayNumber = 0;
        }

        int ripeInAll() {
            int sum = 0;
            for (int b = 0; b < bushCount; b++) {
                sum += bushes[b].ripe;
            }
            return sum;
        }

        void passDay(boolean rain) {
            for (int b = 0; b < bushCount; b++) {
                bushes[b].passDay(law, rain);
            }
            for (int p = 0; p < pickerCount; p++) {
                pickers[p].clock = 0;
            }
            dayNumber++;
        }

        void passDayByDraws() {
            for (int p = 0; p < pickerCount; p++) {
                Bush bush = bushes[draw(bushCount)];
                pickers[p].walkTo(bush);
                pickers[p].takeHandfuls(bush, draw(6), law.canHolds);
            }
            passDay(draw(4) == 0);
        }

        private int draw(int many) {
            seed = (int) ((seed * 1103515245L + 12345L) & 0x7fffffffL);
            return many < 1 ? 0 : seed / 65536 % many;
        }
    }

    /** The text as it is fed, and what it tells, up to its first fault. */
    private static final class Reader {
        private static final int MISPLACED = 1;
        private static final int WRONG_NUMBER = 2;
        private static final int ONE_TOO_MANY = 3;
        private static final int[] LAW_BOUNDS = {1, 20, 1, 20, 1, 20};
        private static final int[] BUSH_BOUNDS = {0, 99, 0, 1, 0, 3, 0, 300, 0, 300, 0, 300};
        private static final int[] PICKER_BOUNDS = {0, 99, 1, 20, 0, 9, 0, 1};
        private static final int[] CAN_BOUNDS = {1, 999};

        final Lane draft = new Lane();
        int size;
        int faultPlace = NONE;
        private final char[] text = new char[MOST_LETTERS];
        private final int[] numbers = new int[6];
        private int place;
        private int fault;
        private boolean canTold;

        boolean isFull() {
            return size >= MOST_LETTERS;
        }

        int append(char letter) {
            if (size < MOST_LETTERS) {
                text[size] = letter;
                size++;
            }
            return size;
        }

        /** The number of the fault, 0 if there is none; the text is empty behind it. */
        int readAll() {
            draft.forget();
            canTold = false;
            place = 0;
            fault = 0;
            faultPlace = NONE;
            skipBlanks();
            for (int clause = 0; clause < MOST_LETTERS && place < size && fault == 0; clause++) {
                readClause();
                skipBlanks();
            }
            size = 0;
            return fault;
        }

        private void readClause() {
            char word = text[place];
            int wordFault = faultOfWord(word);
            if (wordFault != 0) {
                note(wordFault, place);
                return;
            }
            place++;
            readNumbers(boundsOf(word));
            skipBlanks();
            if (fault == 0 && (place >= size || text[place] != ';')) {
                note(MISPLACED, place);
            }
            if (fault == 0) {
                place++;
                take(word);
            }
        }

        private int faultOfWord(char word) {
            boolean lawTold = draft.law.isTold();
            if (!lawTold && word != 'l') {
                return MISPLACED;
            }
            switch (word) {
                case 'l': return lawTold ? ONE_TOO_MANY : 0;
                case 'b': return draft.bushCount >= MOST_BUSHES ? ONE_TOO_MANY : 0;
                case 'p': return draft.pickerCount >= MOST_PICKERS ? ONE_TOO_MANY : 0;
                case 'c': return canTold ? ONE_TOO_MANY : 0;
                default: return MISPLACED;
            }
        }

        private static int[] boundsOf(char word) {
            switch (word) {
                case 'l': return LAW_BOUNDS;
                case 'b': return BUSH_BOUNDS;
                case 'p': return PICKER_BOUNDS;
                default: return CAN_BOUNDS;
            }
        }

        private void readNumbers(int[] bounds) {
            for (int i = 0; i < numbers.length && 2 * i + 1 < bounds.length && fault == 0; i++) {
                skipBlanks();
                numbers[i] = readNumber(bounds[2 * i], bounds[2 * i + 1]);
            }
        }

        private int readNumber(int low, int high) {
            int first = place;
            int value = 0;
            while (place < size && within(text[place], '0', '9')) {
                if (place - first < 3) {
                    value = 10 * value + text[place] - '0';
                }
                place++;
            }
            if (place == first) {
                note(MISPLACED, first);
            } else if (place - first > 3 || !within(value, low, high)) {
                note(WRONG_NUMBER, first);
            }
            return value;
        }

        private void take(char word) {
            switch (word) {
                case 'l':
                    draft.law.ripening = numbers[0];
                    draft.law.softening = numbers[1];
                    draft.law.falling = numbers[2];
                    break;
                case 'b':
                    takeBush();
                    break;
                case 'p':
                    takePicker();
                    break;
                default:
                    draft.law.canHolds = numbers[0];
                    canTold = true;
            }
        }

        private void takeBush() {
            Bush bush = draft.bushes[draft.bushCount];
            draft.bushCount++;
            bush.yard = numbers[0];
            bush.side = numbers[1];
            bush.kind = numbers[2];
            bush.red = numbers[3];
            bush.ripe = numbers[4];
            bush.soft = numbers[5];
        }

        private void takePicker() {
            Picker picker = draft.pickers[draft.pickerCount];
            draft.pickerCount++;
            picker.yard = numbers[0];
            picker.quickness = numbers[1];
            picker.appetite = numbers[2];
            picker.reachesHigh = numbers[3] == 1;
        }

        private void skipBlanks() {
            while (place < size && text[place] == ' ') {
                place++;
            }
        }

        private void note(int number, int at) {
            fault = number;
            faultPlace = at;
        }
    }

    /**
     * The way by which most comes to a can. The order of bushes costs moments alone, so of each
     * set of bushes the shortest way through it counts, and what the moments that are left bring there.
     */
    private static final class BestWay {
        private static final int TIMES = MOST_MOMENTS + 1;
        private static final int START = MOST_BUSHES;
        private static final int SETS = 1 << MOST_BUSHES;

        int most;
        int stops;
        final int[] stopBush = new int[MOST_BUSHES];
        final int[] stopHandfuls = new int[MOST_BUSHES];
        private final int[] shortest = new int[(MOST_BUSHES + 1) * SETS];
        private final int[] gathered = new int[SETS * TIMES];
        private final int[] gains = new int[MOST_BUSHES * TIMES];
        private final int[] useful = new int[MOST_BUSHES];
        private final int[] handfulMoments = new int[MOST_BUSHES];
        private final int[] wayMoments = new int[(MOST_BUSHES + 1) * MOST_BUSHES];
        private final Bush trial = new Bush();
        private int bushCount;
        private int been;
        private int last;
        private int timeLeft;
        private int aim;

        int findMost(Lane lane, Picker who, int moments) {
            bushCount = lane.bushCount;
            for (int b = 0; b < bushCount; b++) {
                measureGains(who, lane.bushes[b], b);
                measureWays(lane, who, b);
            }
            for (int b = 0; b < bushCount; b++) {
                for (int lesser = 0; lesser < 1 << b; lesser++) {
                    fillShortest(lesser | 1 << b);
                    fillGathered(lesser, b, moments);
                }
            }
            most = mostBeyond(0, START, moments);
            return most;
        }

        /**
         * Handfuls only get smaller, so behind one that brings nothing none is useful; the first
         * one counts as useful in any case, as the first way may lead over a bush that brings nothing.
         */
        private void measureGains(Picker who, Bush bush, int b) {
            trial.copyFrom(bush);
            handfulMoments[b] = bush.handfulMoments();
            useful[b] = 1;
            int sum = 0;
            for (int h = 1; h < TIMES; h++) {
                int gain = who.tryHandful(trial);
                sum += gain;
                gains[b * TIMES + h] = sum;
                if (gain > 0) {
                    useful[b] = h;
                }
            }
        }

        private void measureWays(Lane lane, Picker who, int to) {
            Bush bush = lane.bushes[to];
            for (int from = 0; from < bushCount; from++) {
                Bush other = lane.bushes[from];
                wayMoments[from * MOST_BUSHES + to] = bush.momentsFrom(other.yard, other.side);
            }
            wayMoments[START * MOST_BUSHES + to] = who.momentsTo(bush);
        }

        /** Moments of the shortest way through a set from each bush and from the start; smaller sets stand already. */
        private void fillShortest(int set) {
            for (int from = 0; from <= MOST_BUSHES; from++) {
                int least = NONE;
                for (int b = 0; b < bushCount; b++) {
                    if ((set >> b & 1) == 1) {
                        int moments = wayMoments[from * MOST_BUSHES + b] + shortest[b * SETS + (set ^ 1 << b)];
                        least = least == NONE ? moments : Math.min(least, moments);
                    }
                }
                shortest[from * SETS + set] = least;
            }
        }

        /**
         * The most of one handful or more at each of the lesser bushes and at b, ways aside, by
         * moments; NONE: they are too few for it.
         */
        private void fillGathered(int lesser, int b, int moments) {
            int set = lesser | 1 << b;
            for (int time = 0; time <= moments; time++) {
                int top = NONE;
                int rest = time - handfulMoments[b];
                for (int h = 1; h <= useful[b] && rest >= 0; h++) {
                    int there = gathered[lesser * TIMES + rest];
                    if (there != NONE) {
                        top = Math.max(top, gains[b * TIMES + h] + there);
                    }
                    rest -= handfulMoments[b];
                }
                gathered[set * TIMES + time] = top;
            }
        }

        private int mostBeyond(int beenAt, int from, int time) {
            int top = 0;
            for (int set = 1; set < 1 << bushCount; set++) {
                int rest = time - shortest[from * SETS + set];
                if ((set & beenAt) == 0 && rest >= 0) {
                    top = Math.max(top, gathered[set * TIMES + rest]);
                }
            }
            return top;
        }

        /** The first of the ways that bring most; findMost has filled the tables for it. */
        void findStops(int moments) {
            stops = 0;
            been = 0;
            last = START;
            timeLeft = moments;
            aim = most;
            for (int i = 0; i < bushCount && aim > 0; i++) {
                findNextStop();
            }
        }

        private void findNextStop() {
            for (int b = 0; b < bushCount; b++) {
                if ((been >> b & 1) == 0) {
                    int h = fewestHandfuls(b);
                    if (h > 0) {
                        addStop(b, h);
                        return;
                    }
                }
            }
        }

        /** The fewest at a bush by which the aim can still be met, 0 if it can't be met there. */
        private int fewestHandfuls(int b) {
            int rest = timeLeft - wayMoments[last * MOST_BUSHES + b] - handfulMoments[b];
            for (int h = 1; h <= useful[b] && rest >= 0; h++) {
                if (gains[b * TIMES + h] + mostBeyond(been | 1 << b, b, rest) == aim) {
                    return h;
                }
                rest -= handfulMoments[b];
            }
            return 0;
        }

        private void addStop(int b, int handfuls) {
            if (stops < MOST_BUSHES) {
                stopBush[stops] = b;
                stopHandfuls[stops] = handfuls;
                stops++;
            }
            timeLeft -= wayMoments[last * MOST_BUSHES + b] + handfuls * handfulMoments[b];
            aim -= gains[b * TIMES + handfuls];
            been |= 1 << b;
            last = b;
        }
    }

    /** Who where: all rows of bushes, picker by picker, are gone through in the order of their rank. */
    private static final class Places {
        int most;
        private final int[] gains = new int[MOST_PICKERS * MOST_BUSHES];
        private final int[] row = new int[MOST_PICKERS];
        private final int[] bestRow = new int[MOST_PICKERS];
        private final Bush trial = new Bush();
        private int bushCount;
        private int pickerCount;

        void findFor(Lane lane, int handfuls) {
            measure(lane, handfuls);
            most = NONE;
            Arrays.fill(row, 0);
            int rows = countRows();
            for (int i = 0; i < rows; i++) {
                int sum = sumOfRow();
                if (sum > most) {
                    most = sum;
                    System.arraycopy(row, 0, bestRow, 0, MOST_PICKERS);
                }
                stepRow();
            }
        }

        int bushOf(int p) {
            return bestRow[p] < bushCount ? bestRow[p] : NONE;
        }

        private void measure(Lane lane, int handfuls) {
            bushCount = lane.bushCount;
            pickerCount = lane.pickerCount;
            for (int p = 0; p < pickerCount; p++) {
                for (int b = 0; b < bushCount; b++) {
                    trial.copyFrom(lane.bushes[b]);
                    gains[p * MOST_BUSHES + b] = lane.pickers[p].tryHandfuls(trial, handfuls);
                }
            }
        }

        /**
         * NONE if two are at one bush. To be at none is the number behind the last bush: it brings
         * nothing and comes last, so nobody is chosen to be at none while a bush is free.
         */
        private int sumOfRow() {
            int taken = 0;
            int sum = 0;
            for (int p = 0; p < pickerCount; p++) {
                int b = row[p];
                if (b < bushCount) {
                    if ((taken >> b & 1) == 1) {
                        return NONE;
                    }
                    taken |= 1 << b;
                    sum += gains[p * MOST_BUSHES + b];
                }
            }
            return sum;
        }

        private int countRows() {
            int rows = 1;
            for (int p = 0; p < pickerCount; p++) {
                rows *= bushCount + 1;
            }
            return rows;
        }

        private void stepRow() {
            for (int p = pickerCount - 1; p >= 0; p--) {
                if (row[p] < bushCount) {
                    row[p]++;
                    return;
                }
                row[p] = 0;
            }
        }
    }

    /** Two rivals, each in turn going where he has most while the other one stays. */
    private static final class Contest {
        private static final int MOST_TURNS = 16;

        int changes;
        int bushOfA;
        int bushOfB;
        boolean settled;
        private final Bush trial = new Bush();

        void playOut(Lane lane, int a, int b, int handfuls) {
            changes = 0;
            bushOfA = 0;
            bushOfB = 0;
            int stays = 0;
            for (int turn = 0; turn < MOST_TURNS && stays < 2; turn++) {
                if (takeTurn(lane, a, b, handfuls, turn % 2 == 0)) {
                    changes++;
                    stays = 0;
                } else {
                    stays++;
                }
            }
            settled = stays > 0;
        }

        private boolean takeTurn(Lane lane, int a, int b, int handfuls, boolean ofA) {
            int before = ofA ? bushOfA : bushOfB;
            int choice = before;
            int most = NONE;
            for (int at = 0; at < lane.bushCount; at++) {
                boolean together = at == (ofA ? bushOfB : bushOfA);
                trial.copyFrom(lane.bushes[at]);
                int has = together
                        ? shareOf(lane.pickers[a], lane.pickers[b], handfuls, ofA)
                        : lane.pickers[ofA ? a : b].tryHandfuls(trial, handfuls);
                if (has > most) {
                    most = has;
                    choice = at;
                }
            }
            if (ofA) {
                bushOfA = choice;
            } else {
                bushOfB = choice;
            }
            return choice != before;
        }

        private int shareOf(Picker a, Picker b, int handfuls, boolean ofA) {
            int sumOfA = 0;
            int sumOfB = 0;
            for (int i = 0; i < handfuls; i++) {
                sumOfA += a.tryHandful(trial);
                sumOfB += b.tryHandful(trial);
            }
            return ofA ? sumOfA : sumOfB;
        }
    }

    /** Rows of what was told, one behind the other, up to a room. */
    private static final class Sheet {
        final int[] picker = new int[MOST_ENTRIES];
        final int[] bush = new int[MOST_ENTRIES];
        final int[] number = new int[MOST_ENTRIES];
        final int[] much = new int[MOST_ENTRIES];
        int size;
        private final int room;

        Sheet(int room) {
            this.room = Math.min(room, MOST_ENTRIES);
        }

        boolean isFull() {
            return size >= room;
        }

        int append(int ofPicker, int ofBush, int ofNumber, int ofMuch) {
            if (size < room) {
                picker[size] = ofPicker;
                bush[size] = ofBush;
                number[size] = ofNumber;
                much[size] = ofMuch;
                size++;
            }
            return size;
        }
    }

    /** What was seen: berries left, cans, a book of handfuls; and what follows from each. */
    private static final class Seen {
        private static final int LAST_DAY = 9;
        private static final int MOST_TAKEN = 99;

        final Sheet remains = new Sheet(MOST_LEFT);
        final Sheet cans = new Sheet(MOST_CANS);
        final Sheet book = new Sheet(MOST_ENTRIES);
        int soughtVisit;
        private final Bush untouched = new Bush();
        private final Bush trial = new Bush();
        private final Picker guess = new Picker();
        private final int[] ripeThen = new int[MOST_BUSHES];

        int clearAll() {
            int before = remains.size + cans.size + book.size;
            remains.size = 0;
            cans.size = 0;
            book.size = 0;
            return before;
        }

        /** How many visits there may have been; the sought one of them is kept aside. */
        int findVisits(Lane lane, int b, int sought) {
            int visits = 0;
            soughtVisit = NONE;
            untouched.copyFrom(lane.bushes[b]);
            for (int v = 0; v <= LAST_DAY; v++) {
                for (int y = 1; y <= MOST_TAKEN && y <= untouched.ripe; y++) {
                    if (agreesAfterVisit(lane.law, b, v, y)) {
                        if (visits == sought) {
                            soughtVisit = 100 * v + y;
                        }
                        visits++;
                    }
                }
                if (!agreesOnDay(untouched, b, v)) {
                    return visits;
                }
                untouched.passDay(lane.law, false);
            }
            return visits;
        }

        private boolean agreesAfterVisit(Law law, int b, int v, int y) {
            trial.copyFrom(untouched);
            trial.ripe -= y;
            for (int d = v; d <= LAST_DAY; d++) {
                if (!agreesOnDay(trial, b, d)) {
                    return false;
                }
                trial.passDay(law, false);
            }
            return true;
        }

        private boolean agreesOnDay(Bush bush, int b, int d) {
            for (int i = 0; i < remains.size; i++) {
                if (remains.bush[i] == b && remains.number[i] == d && remains.much[i] != bush.ripe) {
                    return false;
                }
            }
            return true;
        }

        int appetitesOf(Lane lane, int p) {
            int set = 0;
            guess.copyFrom(lane.pickers[p]);
            for (int appetite = 0; appetite <= MOST_APPETITE; appetite++) {
                guess.appetite = appetite;
                if (cansAgree(lane, p)) {
                    set |= 1 << appetite;
                }
            }
            return set;
        }

        private boolean cansAgree(Lane lane, int p) {
            for (int i = 0; i < cans.size; i++) {
                if (cans.picker[i] == p) {
                    trial.copyFrom(lane.bushes[cans.bush[i]]);
                    if (guess.tryHandfuls(trial, cans.number[i]) != cans.much[i]) {
                        return false;
                    }
                }
            }
            return true;
        }

        int firstWrong(Lane lane) {
            for (int b = 0; b < lane.bushCount; b++) {
                ripeThen[b] = lane.bushes[b].ripe;
            }
            for (int i = 0; i < book.size; i++) {
                int b = book.bush[i];
                trial.copyFrom(lane.bushes[b]);
                trial.ripe = ripeThen[b];
                int gave = lane.pickers[book.picker[i]].wouldGet(trial);
                if (gave != book.much[i]) {
                    return i;
                }
                ripeThen[b] -= gave;
            }
            return NONE;
        }
    }
}
