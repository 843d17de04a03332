/** Counts answers that are not the ones that are due. */
final class Due {
    static final int NONE = -1, UNKNOWN = -1000000001, OUTSIDE = -1000000002, NOT = -1000000003, FULL = -1000000004;

    /** A survey with a map of each kind; the land is lines 0, 1, 3 and 4. */
    static final String FIVE = "n5;l0 1 1 10;l1 2 1 7;l2 3 0 4;l3 0 1 9;l1 3 1 20;l3 4 0 3;"
        + "m0 31 0;m1 39 0;m2 27 0;m3 63 0;m4 0 0;i2;i6;";

    private int asked;
    private int wrong;

    void is(String what, int got, int want) {
        asked++;
        if (got != want) {
            wrong++;
            System.out.println(what + " answered " + got + ", due is " + want);
        }
    }

    void same(String what, String got, String want) {
        asked++;
        if (!got.equals(want)) {
            wrong++;
            System.out.println(what + " answered " + got + ", due is " + want);
        }
    }

    /** What survey() answers to a text, and what fault() tells then. */
    MapDuty reads(String text, int answer, int letter) {
        MapDuty x = new MapDuty();
        feed(x, text);
        is("survey() of '" + text + "'", x.survey(), answer);
        is("fault() of '" + text + "'", x.fault(), letter);
        return x;
    }

    static void feed(MapDuty x, String text) {
        for (int i = 0; i < text.length(); i++) {
            x.feed(text.charAt(i));
        }
    }

    static MapDuty surveyed(String text) {
        MapDuty x = new MapDuty();
        feed(x, text);
        if (x.survey() < 0) {
            throw new IllegalStateException("a test's survey has a fault at " + x.fault() + ": " + text);
        }
        return x;
    }

    void end() {
        System.out.println(asked + " answers, " + wrong + " wrong");
        if (wrong != 0 || asked == 0) {
            System.exit(1);
        }
    }
}
