import java.util.ArrayList;
import java.util.List;

/** All that can be seen of a lane, so that two of them can be held against each other. */
final class Look {
    private Look() {
    }

    /** By calls that change nothing. */
    static List<Integer> at(BerryLane x) {
        List<Integer> all = new ArrayList<>();
        for (int what = 0; what < 12; what++) {
            all.add(x.told(what));
        }
        for (int b = 0; b < x.told(3); b++) {
            for (int what = 0; what < 6; what++) {
                all.add(x.bush(b, what));
            }
        }
        for (int p = 0; p < x.told(4); p++) {
            for (int what = 0; what < 8; what++) {
                all.add(x.picker(p, what));
            }
        }
        int seed = x.seed(0);
        x.seed(seed);
        all.add(seed);
        all.add(x.fault());
        return all;
    }

    /** What was seen, the images and the letters of the text, too: it is another lane behind that. */
    static List<Integer> into(BerryLane x) {
        List<Integer> all = new ArrayList<>(at(x));
        for (int b = 0; b < x.told(3); b++) {
            all.add(x.visited(b, BerryLane.NONE));
            all.add(x.visited(b, 0));
        }
        for (int p = 0; p < x.told(4); p++) {
            all.add(x.eats(p));
        }
        all.add(x.judge());
        for (int i = 0; i < 2; i++) {
            all.add(x.goBack(i));
            all.addAll(at(x));
        }
        all.add(x.lane());
        all.addAll(at(x));
        return all;
    }

    static void same(String name, List<Integer> got, List<Integer> want) {
        Due.is(name + ": as many numbers", got.size(), want.size());
        for (int i = 0; i < want.size() && i < got.size(); i++) {
            Due.is(name + ": number " + i, got.get(i), want.get(i));
        }
    }
}
