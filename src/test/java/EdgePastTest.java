import java.util.function.ToIntFunction;

/** Section 3 as far as it is draws, undoing and images: promises 15, 16, 29 to 31. */
public final class EdgePastTest {
    private static final Due DUE = new Due();

    public static void main(String[] args) {
        seedIs0AtFirst();
        seeds0To2147483647();
        aDrawIsLeftOverBy2ToThe31();
        driftWithoutLines();
        driftWithoutMaps();
        driftWithoutInspectors();
        driftMovesAndDrawsBothWays();
        drawsReachTheFirstAndTheLast();
        driftComesAheadOfEachDay();
        driftsOfOneAndOfMany();
        eachIsUndone();
        whatChangesNothingIsUndoneToo();
        sixteenAtMost();
        theRingGoesRound();
        othersAreNotUndone();
        theSeedStays();
        undoneOnce();
        imagesKeepAllOfSectionTwo();
        imagesKeepTheSeed();
        journeysAndBookAreInNoImage();
        twoImages();
        nothingCanBeUndoneThen();
        imagesWithoutSurvey();
        DUE.end();
    }

    private static int next(int seed) {
        return (int) ((seed * 1103515245L + 12345L) % 2147483648L);
    }

    /** A seed behind which the first draw of 5 is so. */
    private static int seedFor(int lot) {
        int seed = 1;
        while (next(seed) / 65536 % 5 != lot) {
            seed++;
        }
        return seed;
    }

    /** What drift(1) leaves as the seed. */
    private static int seedBehind(MapDuty x, int seed) {
        x.seed(seed);
        x.drift(1);
        return x.seed(0);
    }

    /** "THE SEED (0 at first ..)". */
    private static void seedIs0AtFirst() {
        DUE.is("new", new MapDuty().seed(1), 0);
        DUE.is("surveyed", Due.surveyed("n2;l0 1 1 1;").seed(1), 0);
        // 0 times 1103515245 and 12345: 12345 / 65536 is 0, so line 0 is moved, by a second draw
        MapDuty x = Due.surveyed("n2;l0 1 1 1;");
        x.drift(1);
        DUE.is("the land", x.told(6), 0);
        DUE.is("two draws", x.seed(0), next(12345));
    }

    /** Promise 29: "v (0 .. 2147483647): what it was". */
    private static void seeds0To2147483647() {
        MapDuty x = new MapDuty();
        DUE.is("the most", x.seed(2147483647), 0);
        DUE.is("-1", x.seed(-1), Due.OUTSIDE);
        DUE.is("least", x.seed(Integer.MIN_VALUE), Due.OUTSIDE);
        DUE.is("0", x.seed(0), 2147483647);
        DUE.is("1", x.seed(1), 0);
        DUE.is("it stays", x.seed(1), 1);
    }

    /** "it becomes it times 1103515245 and 12345, left over by 2 to the 31; the DRAW of n is it / 65536, left over by n". */
    private static void aDrawIsLeftOverBy2ToThe31() {
        MapDuty x = Due.surveyed("n2;l0 1 1 1;");
        // 2147483647 is -1, so 12345 - 1103515245 and 2 to the 31: 15929 times 65536 and more, of 5 on 4
        DUE.is("behind the most", seedBehind(x, 2147483647), 1043980748);
        // 2 to the 30 is 0 or itself, as the factor is even or odd: 1073741824 and 12345, 16384 of 5 on 4
        DUE.is("behind 2 to the 30", seedBehind(x, 1 << 30), 1073754169);
        for (int bit = 0; bit < 31; bit++) {
            for (int seed : new int[] {1 << bit, (1 << bit) - 1, Integer.MAX_VALUE - (1 << bit)}) {
                int lot = next(seed) / 65536 % 5;
                DUE.is("behind " + seed, seedBehind(x, seed), lot == 0 ? next(next(seed)) : next(seed));
            }
        }
        DUE.is("days", x.told(5), 2 + 93);
    }

    /** "if there are LINES, a DRAW of 5": without them none. */
    private static void driftWithoutLines() {
        MapDuty x = Due.surveyed("n2;m0 0 0;i1;");
        for (int lot = 0; lot < 5; lot++) {
            DUE.is("no draw", seedBehind(x, seedFor(lot)), seedFor(lot));
        }
        DUE.is("days", x.told(5), 5);
        x.seed(9);
        DUE.is("60 days", x.drift(60), 0);
        DUE.is("no draw", x.seed(0), 9);
        DUE.is("days", x.told(5), 65);
    }

    /** "on 1, if there are MAPS"; "on 2, if there are MAPS and INSPECTORS": without maps no more draws. */
    private static void driftWithoutMaps() {
        MapDuty x = Due.surveyed("n2;l0 1 1 1;i1;");
        for (int lot = 0; lot < 5; lot++) {
            int first = next(seedFor(lot));
            DUE.is("on " + lot, seedBehind(x, seedFor(lot)), lot == 0 ? next(first) : first);
        }
        DUE.is("moved once", x.told(6), 0);
    }

    private static void driftWithoutInspectors() {
        MapDuty x = Due.surveyed("n2;l0 1 1 1;m0 1 0;");
        for (int lot = 0; lot < 5; lot++) {
            int first = next(seedFor(lot));
            int due = lot == 0 ? next(first) : lot == 1 ? next(next(first)) : first;
            DUE.is("on " + lot, seedBehind(x, seedFor(lot)), due);
        }
        DUE.is("moved once", x.told(6), 0);
        DUE.is("drawn once", x.map(0, 1), 0);
        MapDuty y = Due.surveyed("n2;l0 1 0 1;m0 1 0;i1;");
        int first = next(seedFor(2));
        DUE.is("with one", seedBehind(y, seedFor(2)), next(next(first)));
        DUE.is("it is fined", y.map(0, 3), 10);
    }

    /** "MOVED (TRUE, if it was not, else no more)"; "DRAWN (as above)". */
    private static void driftMovesAndDrawsBothWays() {
        MapDuty x = Due.surveyed("n2;l0 1 1 1;m0 1 0;");
        for (int n = 1; n <= 4; n++) {
            seedBehind(x, seedFor(0));
            DUE.is("moved " + n + " times", x.told(6), (n + 1) % 2);
            seedBehind(x, seedFor(1));
            DUE.is("drawn " + n + " times", x.map(0, 1), (n + 1) % 2);
        }
    }

    private static final String MOST = "n8;l0 1 1 1;l0 2 1 1;l0 3 1 1;l0 4 1 1;l0 5 1 1;l0 6 1 1;l0 7 1 1;"
        + "l1 2 1 1;l1 3 1 1;l1 4 1 1;l1 5 1 1;l1 6 1 1;m0 63 63;m0 63 63;m0 63 63;m0 63 63;m0 63 63;i1;i2;i3;i4;";

    /** A seed behind which the draws are lot of 5, then of two kinds of numbers as told; the third may be left free (0 of 1). */
    private static int seedFor(int lot, int second, int ofSecond, int third, int ofThird) {
        int seed = seedFor(lot);
        while (next(seed) / 65536 % 5 != lot || next(next(seed)) / 65536 % ofSecond != second
            || next(next(next(seed))) / 65536 % ofThird != third) {
            seed++;
        }
        return seed;
    }

    /** "a DRAW of LINES", "a DRAW of MAPS, of LINES", "a DRAW of INSPECTORS, of MAPS": each one of them can come. */
    private static void drawsReachTheFirstAndTheLast() {
        for (int l = 0; l < 12; l++) {
            MapDuty x = Due.surveyed(MOST);
            seedBehind(x, seedFor(0, l, 12, 0, 1));
            DUE.is("line " + l + " is moved", x.told(6), 4095 - (1 << l));
            for (int m = 0; m < 5; m++) {
                x = Due.surveyed(MOST);
                seedBehind(x, seedFor(1, m, 5, l, 12));
                for (int n = 0; n < 5; n++) {
                    DUE.is("line " + l + " is drawn on " + m, x.map(n, 1), n == m ? 4095 - (1 << l) : 4095);
                }
            }
        }
        for (int i = 0; i < 4; i++) {
            for (int m = 0; m < 5; m++) {
                MapDuty x = Due.surveyed(MOST.replace(" 1 1;", " 0 1;"));
                seedBehind(x, seedFor(2, i, 4, m, 5));
                for (int n = 0; n < 5; n++) {
                    DUE.is("map " + m + " is inspected by " + i, x.map(n, 3), n == m ? 10 * (i + 1) : 0);
                }
            }
        }
    }

    /** "n DAYS: ahead of each": the day's duty is that behind the draw. */
    private static void driftComesAheadOfEachDay() {
        MapDuty x = Due.surveyed("n2;l0 1 0 50;m0 1 0;i1;");
        x.seed(seedFor(0));
        DUE.is("moved, then owed", x.drift(1), 50);
        x.seed(seedFor(1));
        DUE.is("left off, then nothing owed", x.drift(1), 50);
        x.draw(0, 0, true);
        x.seed(seedFor(2));
        DUE.is("inspected and found right, then owed", x.drift(1), 100);
        x.move(0, false);
        x.seed(seedFor(2));
        DUE.is("fined, then nothing owed", x.drift(1), 110);
        x.seed(seedFor(3));
        DUE.is("on 3 nothing", x.drift(1), 110);
        x.seed(seedFor(4));
        DUE.is("on 4 nothing", x.drift(1), 110);
    }

    /** Sixty days at once are sixty times one. */
    private static void driftsOfOneAndOfMany() {
        for (int seed = 0; seed < 20; seed++) {
            MapDuty x = Due.surveyed(Due.FIVE);
            MapDuty y = Due.surveyed(Due.FIVE);
            x.seed(seed);
            y.seed(seed);
            int owed = x.drift(60);
            int last = 0;
            for (int n = 0; n < 60; n++) {
                last = y.drift(1);
            }
            DUE.is("60 at once", owed, last);
            x.keep(0);
            y.keep(0);
            x.keep(1);
            y.keep(1);
            DUE.same("60 at once", Witness.of(x), Witness.of(y));
        }
    }

    private static void undone(String call, ToIntFunction<MapDuty> done) {
        MapDuty x = States.busyWithoutText();
        MapDuty y = States.busyWithoutText();
        int could = x.told(14);
        DUE.is(call + " is not refused", done.applyAsInt(x) > Due.UNKNOWN ? 1 : 0, 1);
        DUE.is("can be undone behind " + call, x.told(14), could + 1);
        int seed = x.seed(0);
        x.seed(seed);
        y.seed(seed);
        DUE.is(call + " is undone", x.undo(), could);
        DUE.same("all is as ahead of " + call, Witness.of(x), Witness.of(y));
    }

    /** "UNDONE: the latest of draw(), move(), copy(), assess(), inspect(), walk(), day(), drift()". */
    private static void eachIsUndone() {
        undone("draw", x -> x.draw(0, 0, true));
        undone("move", x -> x.move(5, true));
        undone("copy", x -> x.copy(0, 3));
        undone("assess", x -> x.assess(0));
        undone("inspect", x -> x.inspect(1, 3));
        undone("walk", x -> x.walk(3, 0, 4));
        undone("day", x -> x.day(60));
        undone("drift", x -> x.drift(60));
    }

    private static void whatChangesNothingIsUndoneToo() {
        MapDuty x = Due.surveyed("n2;l0 1 1 0;m0 1 0;m0 1 0;i1;");
        x.draw(0, 0, true);
        x.move(0, true);
        x.copy(0, 1);
        x.assess(0);
        x.inspect(0, 0);
        DUE.is("one comes there", x.walk(0, 0, 1), 1);
        DUE.is("six", x.told(14), 6);
        for (int n = 5; n >= 0; n--) {
            DUE.is("undo", x.undo(), n);
        }
        DUE.is("none", x.undo(), Due.NOT);
    }

    /** "(16 at most are kept, the oldest are lost)". */
    private static void sixteenAtMost() {
        for (int done = 0; done <= 18; done++) {
            MapDuty x = Due.surveyed("n2;l0 1 1 1;m0 1 0;");
            for (int n = 0; n < done; n++) {
                x.day(1);
            }
            int kept = Math.min(done, 16);
            DUE.is("of " + done, x.told(14), kept);
            for (int n = kept - 1; n >= 0; n--) {
                DUE.is("undo of " + done, x.undo(), n);
                DUE.is("days", x.told(5), done - kept + n);
            }
            DUE.is("none", x.undo(), Due.NOT);
            DUE.is("days", x.told(5), done - kept);
        }
    }

    /** The sixteen are kept in a ring: done and undone in turn, more often than it has room. */
    private static void theRingGoesRound() {
        MapDuty x = Due.surveyed("n2;l0 1 1 1;m0 1 0;");
        int days = 0;
        int can = 0;
        for (int n = 0; n < 100; n++) {
            x.day(3);
            x.day(1);
            x.undo();
            days += 3;
            can = Math.min(15, can + 1);
            if (n > 0 && n % 40 == 0) {
                DUE.is("undo", x.undo(), can - 1);
                days -= 3;
                can--;
            }
            DUE.is("days", x.told(5), days);
        }
        DUE.is("can be undone", x.told(14), 15);
    }

    /** What is not among those calls is not undone, and makes nothing that could be. */
    private static void othersAreNotUndone() {
        MapDuty x = Due.surveyed("n2;l0 1 1 1;m0 1 0;i1;");
        x.day(1);
        x.journey(0, 1);
        x.write(0, 1);
        x.tear();
        x.journey(1, 0);
        x.write(0, 1);
        x.seed(8);
        x.feed('n');
        x.finds(0, 0);
        x.judge();
        DUE.is("one", x.told(14), 1);
        DUE.is("the day", x.undo(), 0);
        DUE.is("days", x.told(5), 0);
        DUE.is("journeys", x.told(12), 1);
        DUE.is("entries", x.told(13), 1);
        DUE.is("letters", x.told(4), 1);
        DUE.is("the seed", x.seed(0), 8);
    }

    /** "all of section 2 is as ahead of it; THE SEED stays". */
    private static void theSeedStays() {
        MapDuty x = Due.surveyed("n2;l0 1 1 1;m0 1 0;");
        x.seed(seedFor(3));
        x.drift(1);
        DUE.is("undo", x.undo(), 0);
        DUE.is("drawn", x.seed(5), next(seedFor(3)));
        x.day(1);
        x.seed(6);
        x.undo();
        DUE.is("told", x.seed(0), 6);
    }

    /** What is undone cannot be done again by undo(). */
    private static void undoneOnce() {
        MapDuty x = Due.surveyed("n2;l0 1 1 1;m0 1 0;");
        x.day(1);
        x.day(2);
        DUE.is("undo", x.undo(), 1);
        x.day(5);
        DUE.is("two", x.told(14), 2);
        DUE.is("undo", x.undo(), 1);
        DUE.is("days", x.told(5), 1);
        DUE.is("undo", x.undo(), 0);
        DUE.is("days", x.told(5), 0);
        DUE.is("none", x.undo(), Due.NOT);
    }

    /** "IMAGES 0, 1 keep all of section 2, THE SEED." */
    private static void imagesKeepAllOfSectionTwo() {
        for (int number = 0; number < 2; number++) {
            int i = number;
            imageKeeps(i, "draw", x -> x.draw(0, 0, true));
            imageKeeps(i, "move", x -> x.move(5, true));
            imageKeeps(i, "copy", x -> x.copy(0, 3));
            imageKeeps(i, "assess", x -> x.assess(0));
            imageKeeps(i, "inspect", x -> x.inspect(1, 3));
            imageKeeps(i, "walk", x -> x.walk(3, 0, 4));
            imageKeeps(i, "day", x -> x.day(60));
            imageKeeps(i, "drift", x -> x.drift(60));
            imageKeeps(i, "seed", x -> x.seed(2147483647));
            imageKeeps(i, "undo", x -> x.undo());
        }
    }

    private static void imageKeeps(int i, String call, ToIntFunction<MapDuty> done) {
        MapDuty x = States.busyWithoutText();
        MapDuty y = States.busyWithoutText();
        DUE.is("keep", x.keep(i), 1);
        y.keep(i);
        done.applyAsInt(x);
        DUE.is("goBack", x.goBack(i), 1);
        DUE.same("behind " + call + " and goBack(" + i + ")", Witness.of(x), Witness.of(y));
    }

    private static void imagesKeepTheSeed() {
        MapDuty x = Due.surveyed("n2;l0 1 1 1;");
        x.seed(2147483647);
        x.keep(1);
        x.seed(0);
        x.goBack(1);
        DUE.is("the seed of the image", x.seed(3), 2147483647);
        x.goBack(1);
        DUE.is("once more", x.seed(3), 2147483647);
    }

    private static void journeysAndBookAreInNoImage() {
        MapDuty x = Due.surveyed("n2;l0 1 1 1;m0 1 0;");
        x.journey(0, 1);
        x.write(0, 0);
        x.keep(0);
        x.journey(1, 0);
        x.write(0, 1);
        x.feed('n');
        x.goBack(0);
        DUE.is("journeys", x.told(12), 2);
        DUE.is("entries", x.told(13), 2);
        DUE.is("letters", x.told(4), 1);
        x.tear();
        x.goBack(0);
        DUE.is("journeys", x.told(12), 0);
        DUE.is("entries", x.told(13), 0);
    }

    /** Promise 31: "NOT: it was not kept". */
    private static void twoImages() {
        MapDuty x = Due.surveyed("n2;l0 1 1 1;m0 1 0;");
        DUE.is("0 was not kept", x.goBack(0), Due.NOT);
        DUE.is("1 was not kept", x.goBack(1), Due.NOT);
        DUE.is("2 cannot be", x.goBack(2), Due.UNKNOWN);
        x.keep(1);
        DUE.is("0 was not kept", x.goBack(0), Due.NOT);
        x.day(1);
        x.keep(0);
        x.day(1);
        DUE.is("1", x.goBack(1), 1);
        DUE.is("days of 1", x.told(5), 0);
        DUE.is("0", x.goBack(0), 1);
        DUE.is("days of 0", x.told(5), 1);
        x.day(6);
        x.keep(1);
        x.goBack(0);
        DUE.is("days of 0", x.told(5), 1);
        x.goBack(1);
        DUE.is("days of 1, kept again", x.told(5), 7);
        Due.feed(x, "n2;l0 1 1 1;m0 1 0;");
        x.survey();
        DUE.is("0 is gone", x.goBack(0), Due.NOT);
        DUE.is("1 is gone", x.goBack(1), Due.NOT);
    }

    /** Promises 30, 31: "(nothing can be undone then)". */
    private static void nothingCanBeUndoneThen() {
        MapDuty x = Due.surveyed("n2;l0 1 1 1;m0 1 0;");
        for (int n = 0; n < 20; n++) {
            x.day(1);
        }
        DUE.is("keep", x.keep(0), 1);
        DUE.is("none behind keep", x.told(14), 0);
        DUE.is("undo", x.undo(), Due.NOT);
        x.day(1);
        x.day(1);
        DUE.is("two", x.told(14), 2);
        DUE.is("goBack", x.goBack(0), 1);
        DUE.is("none behind goBack", x.told(14), 0);
        DUE.is("undo", x.undo(), Due.NOT);
        DUE.is("days", x.told(5), 20);
        x.day(1);
        DUE.is("from there on", x.undo(), 0);
        DUE.is("days", x.told(5), 20);
    }

    /** The document refuses keep() and goBack() for no want of a survey; there is the seed to keep. */
    private static void imagesWithoutSurvey() {
        MapDuty x = new MapDuty();
        x.seed(7);
        DUE.is("keep", x.keep(1), 1);
        x.seed(8);
        DUE.is("goBack 0", x.goBack(0), Due.NOT);
        DUE.is("goBack 1", x.goBack(1), 1);
        DUE.is("the seed", x.seed(0), 7);
        DUE.is("no survey still", x.day(1), Due.NOT);
    }
}
