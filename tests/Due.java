/** What the tests share: answers that are not as due are printed and counted. */
final class Due {
    private static int asked = 0;
    private static int wrong = 0;
    private static String sentence = "";

    private Due() {
    }

    /** The document's words that the answers from here on hold it to; they are printed with what is wrong. */
    static void sentence(String words) {
        sentence = "\"" + words + "\": ";
    }

    static void is(String call, long got, long want) {
        asked++;
        if (got != want) {
            wrong++;
            if (wrong <= 50) {
                System.out.println(sentence + call + " answered " + got + ", due is " + want);
            }
        }
    }

    /** A lane that must be without a fault. */
    static BerryLane lane(String text) {
        BerryLane x = new BerryLane();
        feed(x, text);
        int answer = x.lane();
        if (answer < 0) {
            is("lane() of " + text, answer, 0);
        }
        return x;
    }

    static void feed(BerryLane x, String text) {
        for (int i = 0; i < text.length(); i++) {
            x.feed(text.charAt(i));
        }
    }

    /** A text that becomes a lane of so many bushes. */
    static BerryLane right(String text, int bushes) {
        BerryLane x = new BerryLane();
        feed(x, text);
        is("lane() of '" + text + "'", x.lane(), bushes);
        is("fault() of '" + text + "'", x.fault(), BerryLane.NONE);
        is("letters behind '" + text + "'", x.told(6), 0);
        return x;
    }

    /** A text that has a fault, of this number, at this letter. */
    static void wrong(String text, int fault, int place) {
        BerryLane x = new BerryLane();
        feed(x, text);
        is("lane() of '" + text + "'", x.lane(), -10 - fault);
        is("fault() of '" + text + "'", x.fault(), place);
        is("letters behind '" + text + "'", x.told(6), 0);
        is("law behind '" + text + "'", x.told(0), 0);
    }

    static void end(String name) {
        System.out.println(name + ": " + asked + " answers, " + wrong + " not as due");
        if (wrong != 0 || asked == 0) {
            System.exit(1);
        }
    }
}
