/** Promises 17 to 24: way, least, lands, finds, unlike, cutOff, atRandom, quiet. */
public final class TriedTest {
    private static final Due DUE = new Due();

    public static void main(String[] args) {
        way();
        wayIsTheFirstOfTheShortest();
        least();
        leastOfLikeOnes();
        leastByKinds();
        lands();
        landsWithoutMaps();
        lineToWalk();
        finds();
        unlike();
        cutOff();
        atRandom();
        quiet();
        nothingChanges();
        DUE.end();
    }

    private static void ways(MapDuty x, int m, int a, int b, int... due) {
        for (int what = 0; what < 3; what++) {
            DUE.is("way " + m + ", " + a + ", " + b + ", " + what, x.way(m, a, b, what), due[what]);
        }
    }

    private static void way() {
        MapDuty x = Due.surveyed(Due.FIVE);
        ways(x, 0, 0, 2, 2, 0, -1);
        ways(x, 0, 2, 3, 1, 2, 0);
        ways(x, 1, 0, 4, 4, 0, 2);
        ways(x, 1, 4, 0, 4, 5, 0);
        ways(x, 3, 0, 4, 2, 3, 1);
        ways(x, 4, 0, 1, -1, -1, -1);
        ways(x, -1, 3, 2, 2, 4, -1);
        ways(x, -1, 0, 4, -1, -1, -1);
        x.move(5, true);
        ways(x, -1, 0, 4, 2, 3, -1);
        DUE.is("map -2", x.way(-2, 0, 1, 0), Due.UNKNOWN);
        DUE.is("map 5", x.way(5, 0, 1, 0), Due.UNKNOWN);
        DUE.is("place 5", x.way(0, 5, 1, 0), Due.UNKNOWN);
        DUE.is("place -1", x.way(0, 1, -1, 0), Due.UNKNOWN);
        DUE.is("a place twice", x.way(0, 2, 2, 0), Due.UNKNOWN);
        DUE.is("a place twice by the land", x.way(-1, 2, 2, 0), Due.UNKNOWN);
        DUE.is("what 3", x.way(0, 0, 1, 3), Due.OUTSIDE);
        DUE.is("what -1", x.way(-1, 0, 1, -1), Due.OUTSIDE);
        DUE.is("unknown ahead of outside", x.way(0, 0, 0, 3), Due.UNKNOWN);
        DUE.is("outside ahead of none", x.way(4, 0, 1, 3), Due.OUTSIDE);
        DUE.is("no survey", new MapDuty().way(-1, 0, 1, 0), Due.UNKNOWN);
    }

    private static void wayIsTheFirstOfTheShortest() {
        // 0 to 5 in three lines: by 2 (lines 1 4 6), by 1 and 3 (0 3 7), by 1 and 4 (0 2 5)
        MapDuty x = Due.surveyed("n7;l0 1 1 1;l0 2 1 1;l1 4 1 1;l1 3 1 1;l2 6 1 1;l4 5 0 1;l6 5 1 1;l3 5 1 1;m0 63 3;");
        ways(x, 0, 0, 5, 3, 0, 2);
        ways(x, -1, 0, 5, 3, 0, -1);
        ways(x, 0, 5, 0, 3, 5, 0);
        x.draw(0, 2, false);
        ways(x, 0, 0, 5, 3, 0, -1);
        x.draw(0, 0, false);
        ways(x, 0, 0, 5, 3, 1, -1);
        x.move(6, false);
        ways(x, 0, 0, 5, 3, 1, 2);
        ways(x, 0, 0, 1, 5, 1, 2);
    }

    private static void leasts(MapDuty x, int kind, int much, int set) {
        DUE.is("least " + kind + ", 0", x.least(kind, 0), much);
        DUE.is("least " + kind + ", 1", x.least(kind, 1), set);
    }

    private static void least() {
        MapDuty x = Due.surveyed(Due.FIVE);
        leasts(x, 0, 0, 0);
        leasts(x, 4, 1 + 1, 0);
        x.journey(0, 2);
        leasts(x, 0, 17, 3);
        leasts(x, 1, 34, 3);
        leasts(x, 2, 8, 3);
        leasts(x, 3, 2, 3);
        leasts(x, 4, 19, 3);
        x.journey(3, 1);
        leasts(x, 0, 26, 11);
        x.move(3, false);
        leasts(x, 0, 37, 19);
        leasts(x, 4, 37 + 1 + 3 + 1, 19);
        x.move(1, false);
        leasts(x, 0, Due.NONE, Due.NONE);
        leasts(x, 4, Due.NONE, Due.NONE);
        x.move(2, true);
        leasts(x, 0, 34, 1 | 4 | 16);
        DUE.is("kind -1", x.least(-1, 0), Due.OUTSIDE);
        DUE.is("kind 5", x.least(5, 0), Due.OUTSIDE);
        DUE.is("what -1", x.least(0, -1), Due.OUTSIDE);
        DUE.is("what 2", x.least(0, 2), Due.OUTSIDE);
        x.tear();
        leasts(x, 0, 0, 0);
        leasts(new MapDuty(), 4, 0, 0);
    }

    private static void leastOfLikeOnes() {
        MapDuty x = Due.surveyed("n3;l0 1 1 0;l1 2 1 0;l0 2 1 0;");
        leasts(x, 0, 0, 0);
        x.journey(2, 0);
        leasts(x, 0, 0, 3);
        MapDuty y = Due.surveyed("n3;l0 1 1 1;l1 2 1 1;l0 2 1 2;");
        y.journey(0, 2);
        leasts(y, 0, 2, 3);
        leasts(y, 2, 0, 3);
        leasts(y, 3, 1, 4);
        y.journey(2, 0);
        y.journey(1, 2);
        y.journey(0, 2);
        leasts(y, 0, 2, 3);
        leasts(y, 3, 2, 3);
    }

    private static void leastByKinds() {
        // all lines are in the second half of the set
        MapDuty x = Due.surveyed("n8;l0 1 0 9;l1 2 0 9;l2 3 0 9;l3 4 0 9;l4 5 0 9;l5 6 0 9;"
            + "l0 7 1 3;l7 6 1 3;l0 6 1 5;l6 3 1 50;l3 0 1 48;l5 3 1 0;");
        x.journey(0, 6);
        leasts(x, 0, 5, 1 << 8);
        leasts(x, 1, 10, 1 << 8);
        leasts(x, 2, 2, 3 << 6);
        leasts(x, 3, 1, 1 << 8);
        leasts(x, 4, 5 + 18, 1 << 8);
        x.journey(5, 0);
        leasts(x, 0, 53, 1 << 8 | 1 << 10 | 1 << 11);
        leasts(x, 2, 26, 3 << 6 | 1 << 10 | 1 << 11);
        x.journey(4, 0);
        leasts(x, 0, Due.NONE, Due.NONE);
    }

    private static void fits(MapDuty x, int e, int many, int inAll, int next) {
        DUE.is("lands " + e + ", 0", x.lands(e, 0), many);
        DUE.is("lands " + e + ", 1", x.lands(e, 1), inAll);
        DUE.is("lands " + e + ", 2", x.lands(e, 2), next);
    }

    private static void lands() {
        MapDuty x = Due.surveyed(Due.FIVE);
        fits(x, 0, 0, Due.NONE, Due.NONE);
        fits(x, 2, 0, Due.NONE, Due.NONE);
        fits(x, 3, 7, 0, 3);
        fits(x, 12, 64, 0, 0);
        DUE.is("e -1", x.lands(-1, 0), Due.OUTSIDE);
        DUE.is("e 13", x.lands(13, 0), Due.OUTSIDE);
        DUE.is("what -1", x.lands(0, -1), Due.OUTSIDE);
        DUE.is("what 3", x.lands(0, 3), Due.OUTSIDE);
        MapDuty y = Due.surveyed("n3;l0 1 0 1;l1 2 0 1;m0 1 0;m0 2 0;");
        fits(y, 0, 0, Due.NONE, Due.NONE);
        fits(y, 1, 2, 0, 0);
        y.draw(1, 0, true);
        fits(y, 0, 0, Due.NONE, Due.NONE);
        // maps 01 and 11: each differs from 01, 11 in one line at most, from 00 and 10 the one in two
        fits(y, 1, 2, 1, 1);
        y.copy(1, 0);
        fits(y, 0, 1, 1, Due.NONE);
        y.move(0, true);
        fits(y, 0, 1, 1, Due.NONE);
    }

    private static void landsWithoutMaps() {
        fits(new MapDuty(), 0, 1, 0, Due.NONE);
        fits(Due.surveyed("n3;l0 1 1 1;l1 2 1 1;"), 0, 4, 0, 0);
        fits(Due.surveyed("n2;m0 0 0;"), 0, 1, 0, Due.NONE);
    }

    private static void lineToWalk() {
        // maps of nothing and of line 2, one error: just these two sets, and line 2 alone parts them
        MapDuty x = Due.surveyed("n4;l0 1 1 1;l1 2 1 1;l2 3 1 1;m0 0 0;m0 4 0;");
        fits(x, 1, 2, 0, 2);
        // two errors: all that differ in lines 0 and 1 by one at most: line 2 parts them in halves
        fits(x, 2, 6, 0, 2);
        x.draw(1, 2, false);
        // one map of nothing, one error: 000, 001, 010, 100: all lines part alike
        fits(x, 1, 4, 0, 0);
    }

    private static void finds() {
        MapDuty x = Due.surveyed(Due.FIVE);
        DUE.is("finds 0, 3", x.finds(0, 3), 0);
        DUE.is("finds 1, 3", x.finds(1, 3), 20);
        DUE.is("finds 1, 0", x.finds(1, 0), 10);
        DUE.is("finds 1, 4", x.finds(1, 4), 0);
        x.move(4, false);
        DUE.is("finds the dearest", x.finds(0, 3), 10);
        DUE.is("it is not fined", x.map(3, 3), 0);
        DUE.is("inspector 2", x.finds(2, 0), Due.UNKNOWN);
        DUE.is("inspector -1", x.finds(-1, 0), Due.UNKNOWN);
        DUE.is("map 5", x.finds(0, 5), Due.UNKNOWN);
        DUE.is("map -1", x.finds(0, -1), Due.UNKNOWN);
    }

    private static void unlike() {
        MapDuty x = Due.surveyed(Due.FIVE);
        DUE.is("unlike 0, 1", x.unlike(0, 1), 56);
        DUE.is("unlike 1, 0", x.unlike(1, 0), 56);
        x.copy(0, 1);
        DUE.is("alike", x.unlike(0, 1), 0);
        DUE.is("one twice", x.unlike(0, 0), Due.UNKNOWN);
        DUE.is("map 5", x.unlike(0, 5), Due.UNKNOWN);
        DUE.is("map -1", x.unlike(-1, 0), Due.UNKNOWN);
    }

    private static void cutOff() {
        MapDuty x = Due.surveyed(Due.FIVE);
        DUE.is("cut off from 0", x.cutOff(0), 16);
        DUE.is("cut off from 4", x.cutOff(4), 15);
        x.move(1, false);
        DUE.is("cut off from 2", x.cutOff(2), 27);
        x.move(2, true);
        x.move(5, true);
        DUE.is("cut off from 2", x.cutOff(2), 0);
        DUE.is("place 5", x.cutOff(5), Due.UNKNOWN);
        DUE.is("place -1", x.cutOff(-1), Due.UNKNOWN);
        DUE.is("no lines", Due.surveyed("n8;").cutOff(7), 127);
    }

    private static void atRandom() {
        MapDuty x = Due.surveyed(Due.FIVE);
        int[] just = {1, 6, 15, 20, 15, 6, 1, 0, 0, 0, 0, 0, 0};
        int more = 64;
        for (int k = 0; k <= 12; k++) {
            DUE.is("just " + k, x.atRandom(k, 0), just[k]);
            DUE.is(k + " or more", x.atRandom(k, 1), more);
            more -= just[k];
        }
        DUE.is("duty", x.atRandom(0, 2), 23);
        DUE.is("k is no matter", x.atRandom(12, 2), 23);
        DUE.is("k is no matter", x.atRandom(-1, 2), 23);
        x.move(5, true);
        DUE.is("duty, cut", x.atRandom(5, 2), 24);
        DUE.is("k -1", x.atRandom(-1, 0), Due.OUTSIDE);
        DUE.is("k 13", x.atRandom(13, 1), Due.OUTSIDE);
        DUE.is("what -1", x.atRandom(0, -1), Due.OUTSIDE);
        DUE.is("what 3", x.atRandom(0, 3), Due.OUTSIDE);
        MapDuty y = Due.surveyed("n8;l0 1 1 50;l0 2 1 50;l0 3 1 50;l0 4 1 50;l0 5 1 50;l0 6 1 50;l0 7 1 50;"
            + "l1 2 1 50;l1 3 1 50;l1 4 1 50;l1 5 1 50;l1 6 1 50;");
        DUE.is("6 of 12", y.atRandom(6, 0), 924);
        DUE.is("all", y.atRandom(0, 1), 4096);
        DUE.is("12 of 12", y.atRandom(12, 1), 1);
        DUE.is("duty of 12", y.atRandom(0, 2), 300);
    }

    private static void quiet() {
        MapDuty x = new MapDuty();
        DUE.is("no years", x.quiet(0, 0), 1000000000);
        DUE.is("never", x.quiet(1, 0), 0);
        DUE.is("always", x.quiet(60, 100), 1000000000);
        DUE.is("5 by 33", x.quiet(5, 33), 3913539);
        DUE.is("7 by 33", x.quiet(7, 33), 426184);
        // 10000000, 100000, 1000, 10, 0
        DUE.is("4 by 1", x.quiet(4, 1), 10);
        DUE.is("5 by 1", x.quiet(5, 1), 0);
        // 15625000, 7812500, 3906250, 1953125, 976562, 488281, 244140
        DUE.is("12 by 50", x.quiet(12, 50), 244140);
        // 170000000, 28900000, 4913000, 835210, 141985 (of 141985.7), 24137 (of 24137.45), 4103, 697, 118, 20, 3, 0
        DUE.is("11 by 17", x.quiet(11, 17), 3);
        DUE.is("12 by 17", x.quiet(12, 17), 0);
        DUE.is("n -1", x.quiet(-1, 5), Due.OUTSIDE);
        DUE.is("n 61", x.quiet(61, 5), Due.OUTSIDE);
        DUE.is("q -1", x.quiet(1, -1), Due.OUTSIDE);
        DUE.is("q 101", x.quiet(1, 101), Due.OUTSIDE);
        long odds = 1000000000;
        for (int n = 1; n <= 60; n++) {
            odds = odds * 97 / 100;
            DUE.is(n + " by 97", x.quiet(n, 97), (int) odds);
        }
    }

    private static void nothingChanges() {
        MapDuty x = Due.surveyed(Due.FIVE);
        x.day(1);
        x.journey(0, 2);
        x.way(0, 2, 3, 2);
        x.least(0, 1);
        x.lands(3, 2);
        x.finds(1, 3);
        x.unlike(0, 1);
        x.cutOff(0);
        x.atRandom(0, 2);
        x.quiet(3, 3);
        x.judge();
        int[] due = {5, 6, 5, 2, 0, 1, 27, 0, 0, 2, 4, 2, 1, 0, 1};
        for (int what = 0; what < due.length; what++) {
            DUE.is("tried: told " + what, x.told(what), due[what]);
        }
        DUE.is("tried: owes", x.map(3, 3), 4);
        DUE.is("tried: seed", x.seed(0), 0);
    }
}
