/** Promises 8 to 16: draw, move, copy, assess, inspect, walk, day, drift, undo. */
public final class DoneTest {
    private static final Due DUE = new Due();

    public static void main(String[] args) {
        draw();
        move();
        copy();
        assess();
        paidHasAnEnd();
        inspect();
        owedHasAnEnd();
        walk();
        wayIsTheFirstOfTheShortest();
        day();
        daysHaveAnEnd();
        drift();
        driftByEachDraw();
        undo();
        undoKeepsSixteen();
        refusedIsNotUndone();
        DUE.end();
    }

    private static void draw() {
        MapDuty x = Due.surveyed(Due.FIVE);
        DUE.is("draw a line left off", x.draw(4, 2, true), 0);
        DUE.is("it shows", x.map(4, 1), 4);
        DUE.is("draw it again", x.draw(4, 2, true), 1);
        DUE.is("it shows still", x.map(4, 1), 4);
        DUE.is("leave it off", x.draw(4, 2, false), 1);
        DUE.is("leave it off again", x.draw(4, 2, false), 0);
        DUE.is("it shows nothing", x.map(4, 1), 0);
        DUE.is("the land is as it was", x.told(6), 27);
        DUE.is("draw map 5", x.draw(5, 0, true), Due.UNKNOWN);
        DUE.is("draw map -1", x.draw(-1, 0, true), Due.UNKNOWN);
        DUE.is("draw line 6", x.draw(0, 6, true), Due.UNKNOWN);
        DUE.is("draw line -1", x.draw(0, -1, true), Due.UNKNOWN);
    }

    private static void move() {
        MapDuty x = Due.surveyed(Due.FIVE);
        DUE.is("move to true", x.move(2, true), 0);
        DUE.is("the land", x.told(6), 31);
        DUE.is("move it again", x.move(2, true), 1);
        DUE.is("move to untrue", x.move(0, false), 1);
        DUE.is("move it again", x.move(0, false), 0);
        DUE.is("the land", x.told(6), 30);
        DUE.is("maps are as they were", x.map(0, 1), 31);
        DUE.is("move -1", x.move(-1, true), Due.UNKNOWN);
        DUE.is("move 6", x.move(6, true), Due.UNKNOWN);
    }

    private static void copy() {
        MapDuty x = Due.surveyed(Due.FIVE);
        DUE.is("copy", x.copy(4, 1), 0);
        DUE.is("shows what the other does", x.map(4, 1), 39);
        DUE.is("the other is as it was", x.map(1, 1), 39);
        DUE.is("the kind stays", x.map(4, 0), 4);
        x.draw(1, 0, false);
        DUE.is("a later stroke is not copied", x.map(4, 1), 39);
        DUE.is("copy itself", x.copy(2, 2), Due.UNKNOWN);
        DUE.is("copy from 5", x.copy(2, 5), Due.UNKNOWN);
        DUE.is("copy to -1", x.copy(-1, 2), Due.UNKNOWN);
        DUE.is("refused: as it was", x.map(2, 1), 27);
    }

    private static void assess() {
        MapDuty x = Due.surveyed(Due.FIVE);
        DUE.is("assess: its duty", x.assess(0), 46);
        x.day(2);
        DUE.is("assess: owed and duty", x.assess(0), 3 * 46);
        DUE.is("owes nothing then", x.map(0, 3), 0);
        DUE.is("others owe", x.map(1, 3), 68);
        DUE.is("assess the royal one", x.assess(1), 102);
        DUE.is("paid of all", x.told(7), 46 + 138 + 102);
        DUE.is("assess 5", x.assess(5), Due.UNKNOWN);
        DUE.is("assess -1", x.assess(-1), Due.UNKNOWN);
    }

    /** Five royal maps, all right in twelve lines of 50: 1200 a day each. */
    private static final String RICH = "n8;l0 1 1 50;l0 2 1 50;l0 3 1 50;l0 4 1 50;l0 5 1 50;l0 6 1 50;l0 7 1 50;"
        + "l1 2 1 50;l1 3 1 50;l1 4 1 50;l1 5 1 50;l1 6 1 50;m1 63 63;m1 63 63;m1 63 63;m1 63 63;m1 63 63;i12;i1;";

    private static void paidHasAnEnd() {
        MapDuty x = Due.surveyed(RICH);
        for (int round = 0; round < 2; round++) {
            DUE.is("a day call", x.day(60), 5 * 72000);
            DUE.is("to the end", x.day(60), 5 * 99999);
            for (int m = 0; m < 5; m++) {
                DUE.is("assess", x.assess(m), 99999 + 1200);
                int paid = (round * 5 + m + 1) * 101199;
                DUE.is("paid", x.told(7), Math.min(paid, 999999));
            }
        }
    }

    private static void inspect() {
        MapDuty x = Due.surveyed(Due.FIVE);
        DUE.is("a short chain sees true lines", x.inspect(0, 3), 0);
        DUE.is("a long one all", x.inspect(1, 3), 20);
        DUE.is("fined", x.map(3, 3), 20);
        x.inspect(1, 3);
        DUE.is("fined more", x.map(3, 3), 40);
        DUE.is("nothing shown", x.inspect(1, 4), 0);
        DUE.is("inspector 2", x.inspect(2, 0), Due.UNKNOWN);
        DUE.is("inspector -1", x.inspect(-1, 0), Due.UNKNOWN);
        DUE.is("map 5", x.inspect(0, 5), Due.UNKNOWN);
        // lines of most duty first, of like ones the least: 2 (9), then 1 (5), 3 (5), 4 (5), then 0 (1)
        MapDuty y = Due.surveyed("n5;l0 1 0 1;l1 2 0 5;l2 3 1 9;l3 4 1 5;l4 0 0 5;m0 31 0;m0 25 0;i1;i2;i3;i4;");
        int[] due = {0, 10, 10, 20};
        for (int i = 0; i < due.length; i++) {
            DUE.is("chain " + (i + 1), y.inspect(i, 0), due[i]);
        }
        int[] second = {0, 10, 20, 20};
        for (int i = 0; i < second.length; i++) {
            DUE.is("chain " + (i + 1) + " of lines 3, 4, 0", y.inspect(i, 1), second[i]);
        }
        DUE.is("all fines", y.map(0, 3), 40);
        DUE.is("all fines of the other", y.map(1, 3), 50);
        DUE.is("nobody pays", y.told(7), 0);
    }

    private static void owedHasAnEnd() {
        MapDuty x = Due.surveyed(RICH);
        x.day(60);
        x.day(60);
        DUE.is("at the end", x.map(0, 3), 99999);
        x.move(0, false);
        DUE.is("the fine is told", x.inspect(0, 0), 10);
        DUE.is("at the end still", x.map(0, 3), 99999);
        x.day(1);
        DUE.is("and behind a day", x.map(0, 3), 99999);
    }

    private static void walk() {
        MapDuty x = Due.surveyed(Due.FIVE);
        DUE.is("one comes there", x.walk(0, 0, 2), 1);
        DUE.is("one falls", x.walk(0, 2, 3), 0);
        DUE.is("one falls behind a true line", x.walk(3, 0, 4), 0);
        DUE.is("fell", x.told(8), 2);
        DUE.is("no way", x.walk(4, 0, 1), Due.NOT);
        DUE.is("no way by a smuggler's", x.walk(2, 0, 4), Due.NOT);
        DUE.is("fell still", x.told(8), 2);
        DUE.is("place 5", x.walk(0, 0, 5), Due.UNKNOWN);
        DUE.is("place -1", x.walk(0, -1, 2), Due.UNKNOWN);
        DUE.is("a place twice", x.walk(0, 1, 1), Due.UNKNOWN);
        DUE.is("map 5", x.walk(5, 0, 1), Due.UNKNOWN);
        DUE.is("not by the land", x.walk(Due.NONE, 0, 1), Due.UNKNOWN);
        DUE.is("unknown ahead of not", x.walk(4, 0, 5), Due.UNKNOWN);
    }

    private static void wayIsTheFirstOfTheShortest() {
        // 0 to 3: by lines 2, 0 or by lines 1, 3: the first line decides
        MapDuty x = Due.surveyed("n5;l1 3 0 1;l0 2 1 1;l0 1 1 1;l2 3 1 1;l3 4 1 1;m0 31 0;");
        DUE.is("line 1 ahead of line 2", x.walk(0, 0, 3), 1);
        x.move(3, false);
        DUE.is("line 3 is not true", x.walk(0, 0, 3), 0);
        x.move(3, true);
        DUE.is("back: line 0 first", x.walk(0, 3, 0), 0);
        // fewer lines go ahead of lesser numbers
        MapDuty y = Due.surveyed("n3;l0 1 1 1;l1 2 1 1;l0 2 0 1;m0 7 0;");
        DUE.is("the shortest", y.walk(0, 0, 2), 0);
        y.draw(0, 2, false);
        DUE.is("the longer one", y.walk(0, 0, 2), 1);
    }

    private static void day() {
        MapDuty x = Due.surveyed(Due.FIVE);
        DUE.is("a day", x.day(1), 46 + 34 + 22 + 4 + 2);
        DUE.is("days", x.told(5), 1);
        DUE.is("60 days", x.day(60), 108 * 61);
        DUE.is("days", x.told(5), 61);
        DUE.is("owes", x.map(2, 3), 22 * 61);
        DUE.is("0 days", x.day(0), Due.OUTSIDE);
        DUE.is("61 days", x.day(61), Due.OUTSIDE);
        DUE.is("-1 days", x.day(-1), Due.OUTSIDE);
        DUE.is("outside ahead of not", new MapDuty().day(0), Due.OUTSIDE);
        DUE.is("no survey", new MapDuty().day(60), Due.NOT);
        DUE.is("no maps", Due.surveyed("n2;").day(3), 0);
    }

    private static void daysHaveAnEnd() {
        MapDuty x = Due.surveyed("n2;l0 1 0 0;m0 0 0;");
        for (int n = 0; n < 150; n++) {
            DUE.is("day", n % 2 == 0 ? x.day(60) : x.drift(60), 0);
        }
        DUE.is("9000 days are not above 9000", x.told(5), 9000);
        DUE.is("one more", x.drift(1), 0);
        DUE.is("day: full", x.day(1), Due.FULL);
        DUE.is("drift: full", x.drift(1), Due.FULL);
        DUE.is("outside ahead of full", x.drift(61), Due.OUTSIDE);
        DUE.is("days", x.told(5), 9001);
        x.seed(1);
        x.drift(1);
        DUE.is("a refused drift draws nothing", x.seed(2), 1);
        DUE.is("undo", x.undo(), 15);
        DUE.is("60 from 9000", x.day(60), 0);
        DUE.is("days", x.told(5), 9060);
    }

    private static void drift() {
        MapDuty x = Due.surveyed(Due.FIVE);
        x.day(1);
        x.inspect(1, 3);
        x.assess(0);
        x.seed(5);
        DUE.is("20 days by draws", x.drift(20), 1716);
        DUE.is("the seed", x.seed(5), 581311092);
        DUE.is("days", x.told(5), 21);
        DUE.is("the land", x.told(6), 11);
        DUE.is("0 days", x.drift(0), Due.OUTSIDE);
        DUE.is("61 days", x.drift(61), Due.OUTSIDE);
        DUE.is("no survey", new MapDuty().drift(1), Due.NOT);
        DUE.is("outside ahead of not", new MapDuty().drift(61), Due.OUTSIDE);
    }

    private static int next(int seed) {
        return (int) ((seed * 1103515245L + 12345L) % 2147483648L);
    }

    private static int draw(int seed, int n) {
        return seed / 65536 % n;
    }

    /** The least seed ahead of a first draw of 5 that is so. */
    private static int seedFor(int lot, int from) {
        int seed = from;
        while (draw(next(seed), 5) != lot) {
            seed++;
        }
        return seed;
    }

    private static void driftByEachDraw() {
        for (int from = 0; from < 2000; from += 100) {
            int first = next(seedFor(0, from));
            int second = next(first);
            MapDuty x = driftedOnce(seedFor(0, from));
            DUE.is("0: a line is moved", x.told(6), 27 ^ 1 << draw(second, 6));
            DUE.is("two draws", x.seed(0), second);

            first = next(seedFor(1, from));
            second = next(first);
            int third = next(second);
            x = driftedOnce(seedFor(1, from));
            int m = draw(second, 5);
            int l = draw(third, 6);
            DUE.is("1: a map is drawn", x.map(m, 1), new int[] {31, 39, 27, 63, 0}[m] ^ 1 << l);
            DUE.is("three draws", x.seed(0), third);

            first = next(seedFor(2, from));
            second = next(first);
            third = next(second);
            x = driftedOnce(seedFor(2, from));
            int i = draw(second, 2);
            m = draw(third, 5);
            DUE.is("2: a map is inspected", x.map(m, 3) - x.map(m, 2), x.finds(i, m));
            DUE.is("three draws", x.seed(0), third);

            x = driftedOnce(seedFor(3, from));
            DUE.is("3: nothing", x.map(0, 3), 46);
            DUE.is("one draw", x.seed(0), next(seedFor(3, from)));
        }
        MapDuty y = Due.surveyed("n2;i1;");
        y.seed(9);
        y.drift(60);
        DUE.is("no lines: no draws", y.seed(0), 9);
        DUE.is("days", y.told(5), 60);
        y = Due.surveyed("n2;l0 1 1 1;i1;");
        y.seed(seedFor(1, 0));
        y.drift(1);
        DUE.is("1, no maps: one draw", y.seed(0), next(seedFor(1, 0)));
        y.seed(seedFor(2, 0));
        y.drift(1);
        DUE.is("2, no maps: one draw", y.seed(0), next(seedFor(2, 0)));
        y = Due.surveyed("n2;l0 1 1 1;m0 1 0;");
        y.seed(seedFor(2, 0));
        y.drift(1);
        DUE.is("2, no inspectors: one draw", y.seed(0), next(seedFor(2, 0)));
    }

    private static MapDuty driftedOnce(int seed) {
        MapDuty x = Due.surveyed(Due.FIVE);
        x.seed(seed);
        x.drift(1);
        return x;
    }

    private static void undo() {
        MapDuty x = Due.surveyed(Due.FIVE);
        x.draw(4, 0, true);
        x.move(2, true);
        x.copy(0, 1);
        x.day(3);
        x.assess(1);
        x.inspect(1, 3);
        x.walk(0, 3, 4);
        x.seed(4);
        x.drift(9);
        int drawn = x.seed(0);
        x.seed(drawn);
        x.journey(0, 1);
        x.write(0, 0);
        DUE.is("told", x.told(14), 8);
        DUE.is("undo drift", x.undo(), 7);
        DUE.is("days", x.told(5), 3);
        DUE.is("the seed stays", x.seed(drawn), drawn);
        DUE.is("fell", x.told(8), 1);
        DUE.is("undo walk", x.undo(), 6);
        DUE.is("fell", x.told(8), 0);
        int fined = x.map(3, 3);
        DUE.is("undo inspect", x.undo(), 5);
        DUE.is("owes", x.map(3, 3), fined - 10);
        DUE.is("paid", x.told(7) > 0 ? 1 : 0, 1);
        DUE.is("undo assess", x.undo(), 4);
        DUE.is("paid", x.told(7), 0);
        DUE.is("owes", x.map(1, 3), 3 * x.map(1, 2));
        DUE.is("undo day", x.undo(), 3);
        DUE.is("owes", x.map(1, 3), 0);
        DUE.is("days", x.told(5), 0);
        DUE.is("undo copy", x.undo(), 2);
        DUE.is("shows", x.map(0, 1), 31);
        DUE.is("undo move", x.undo(), 1);
        DUE.is("the land", x.told(6), 27);
        DUE.is("undo draw", x.undo(), 0);
        DUE.is("shows", x.map(4, 1), 0);
        DUE.is("none", x.undo(), Due.NOT);
        DUE.is("journeys stay", x.told(12), 1);
        DUE.is("the book stays", x.told(13), 1);
    }

    private static void undoKeepsSixteen() {
        MapDuty x = Due.surveyed("n2;l0 1 1 3;m0 1 0;");
        for (int n = 1; n <= 40; n++) {
            x.day(1);
            DUE.is("can be undone", x.told(14), Math.min(n, 16));
        }
        for (int n = 15; n >= 0; n--) {
            DUE.is("undo", x.undo(), n);
            DUE.is("days", x.told(5), 24 + n);
        }
        DUE.is("the oldest are lost", x.undo(), Due.NOT);
        DUE.is("owes", x.map(0, 3), 72);
        x.day(1);
        DUE.is("from there on", x.undo(), 0);
    }

    private static void refusedIsNotUndone() {
        MapDuty x = Due.surveyed(Due.FIVE);
        x.draw(9, 0, true);
        x.move(9, true);
        x.copy(1, 1);
        x.assess(9);
        x.inspect(9, 0);
        x.walk(4, 0, 1);
        x.walk(0, 0, 0);
        x.day(0);
        x.drift(0);
        x.journey(0, 1);
        x.write(0, 0);
        x.seed(1);
        x.finds(0, 0);
        DUE.is("refused: nothing to undo", x.undo(), Due.NOT);
        x.draw(0, 0, true);
        x.walk(0, 0, 1);
        DUE.is("what changes nothing is undone too", x.told(14), 2);
        DUE.is("undo", x.undo(), 1);
        DUE.is("told", x.told(14), 1);
    }
}
