/** What the tests share: answers that are not as due are printed and counted. */
final class Due {
    private static int asked = 0;
    private static int wrong = 0;

    private Due() {
    }

    static void is(String call, long got, long want) {
        asked++;
        if (got != want) {
            wrong++;
            if (wrong <= 50) {
                System.out.println(call + " answered " + got + ", due is " + want);
            }
        }
    }

    /** A lane that must be without a fault. */
    static BerryLane lane(String text) {
        BerryLane x = new BerryLane();
        feed(x, text);
        int answer = x.lane();
        if (answer < 0) {
            is("lane() of " + text, answer, 0);
        }
        return x;
    }

    static void feed(BerryLane x, String text) {
        for (int i = 0; i < text.length(); i++) {
            x.feed(text.charAt(i));
        }
    }

    static void end(String name) {
        System.out.println(name + ": " + asked + " answers, " + wrong + " not as due");
        if (wrong != 0 || asked == 0) {
            System.exit(1);
        }
    }
}
