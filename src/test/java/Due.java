/** What the tests share: answers that are due are counted against, and a run of letters is fed. */
final class Due {
    private final String test;
    private int asked = 0;
    private int wrong = 0;

    Due(String test) {
        this.test = test;
    }

    void due(String call, long got, long want) {
        asked++;
        if (got != want) {
            wrong++;
            System.out.println(test + ": " + call + " answered " + got + ", due is " + want);
        }
    }

    static BothCorners house(String text) {
        BothCorners x = new BothCorners();
        tell(x, text);
        return x;
    }

    static int tell(BothCorners x, String text) {
        for (int i = 0; i < text.length(); i++) {
            x.feed(text.charAt(i));
        }
        return x.house();
    }

    static void row(BothCorners x, int... numbers) {
        x.clear();
        for (int number : numbers) {
            x.row(number);
        }
    }

    void end() {
        System.out.println(test + ": " + asked + " answers asked, " + wrong + " wrong");
        if (wrong != 0) {
            System.exit(1);
        }
    }
}
