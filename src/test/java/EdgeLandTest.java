import java.lang.reflect.Field;

/** Section 2, and promises 8 to 15: duty and its cuts, the bounds of what is owed, paid, of days and of those who fell. */
public final class EdgeLandTest {
    private static final Due DUE = new Due();

    public static void main(String[] args) throws ReflectiveOperationException {
        rightOrWrong();
        dutyOfEachWorth();
        dutyIsCutLineByLine();
        aBlankMapOfTwelveLines();
        mapsThatShowALine();
        firstAndLastLine();
        owed99999AtMost();
        owed99999AtMostByAFine();
        eachMapOwesForItself();
        paid999999AtMost();
        fell999999AtMost();
        days1To60();
        daysAbove9000();
        chainAndLinesShown();
        ofLikeOnesTheLeastIsLookedAt();
        ofMostDutyFirst();
        aWayGoesEitherWay();
        theFewestLines();
        ofLikeWaysTheFirst();
        whereOneFalls();
        DUE.end();
    }

    /** "RIGHT in a LINE that it SHOWS and that is TRUE, or that it does not SHOW and that is not; else WRONG". */
    private static void rightOrWrong() {
        MapDuty x = Due.surveyed("n4;l0 1 1 5;l1 2 1 5;l2 3 0 5;l3 0 0 5;m0 5 0;");
        DUE.is("right in 0 and 3", x.map(0, 4), 9);
        x.draw(0, 1, true);
        DUE.is("right in 1, too", x.map(0, 4), 11);
        x.draw(0, 2, false);
        DUE.is("right in all", x.map(0, 4), 15);
        x.move(0, false);
        x.move(3, true);
        DUE.is("right in 1 and 2", x.map(0, 4), 6);
        DUE.is("no lines", Due.surveyed("n2;m0 0 0;").map(0, 4), 0);
    }

    /** "KIND 1: twice. KIND 2: half (cut). KIND 3: 1, if D is 1 or more. KIND 4: as KIND 0, and a third (cut) ..". */
    private static void dutyOfEachWorth() {
        for (int d = 0; d <= 50; d++) {
            MapDuty x = Due.surveyed("n2;l0 1 1 " + d + ";m0 1 0;m1 1 0;m2 1 0;m3 1 0;m4 1 0;");
            duties(x, d + ", shown and true", d, d + d, d / 2, d == 0 ? 0 : 1, d);
            x.move(0, false);
            duties(x, d + ", shown and not true", 0, 0, 0, 0, 0);
            for (int m = 0; m < 5; m++) {
                x.draw(m, 0, false);
            }
            duties(x, d + ", not shown and not true", 0, 0, 0, 0, d / 3);
            x.move(0, true);
            duties(x, d + ", not shown and true", 0, 0, 0, 0, 0);
        }
        MapDuty y = Due.surveyed("n3;l0 1 1 1;l1 2 0 2;m0 1 0;m1 1 0;m2 1 0;m3 1 0;m4 1 0;");
        duties(y, "1 is halved to 0, a third of 2 is 0", 1, 2, 0, 1, 1);
        y = Due.surveyed("n3;l0 1 1 3;l1 2 0 3;m0 1 0;m1 1 0;m2 1 0;m3 1 0;m4 1 0;");
        duties(y, "3 is halved to 1, a third of 3 is 1", 3, 6, 1, 1, 4);
        y = Due.surveyed("n3;l0 1 1 49;l1 2 0 50;m0 1 0;m1 1 0;m2 1 0;m3 1 0;m4 1 0;");
        duties(y, "49 is halved to 24, a third of 50 is 16", 49, 98, 24, 1, 65);
    }

    private static void duties(MapDuty x, String what, int... due) {
        for (int m = 0; m < due.length; m++) {
            DUE.is("duty of kind " + m + " of " + what, x.map(m, 2), due[m]);
        }
    }

    /** "DUTY of a MAP, LINE by LINE": what is cut off of two lines does not make a whole. */
    private static void dutyIsCutLineByLine() {
        MapDuty x = Due.surveyed("n4;l0 1 1 1;l1 2 1 1;l2 3 0 2;l3 0 0 2;m2 3 0;m4 0 0;");
        DUE.is("halves of 1 and 1", x.map(0, 2), 0);
        DUE.is("thirds of 2 and 2", x.map(1, 2), 0);
        x = Due.surveyed("n4;l0 1 1 49;l1 2 1 49;l2 3 0 50;l3 0 0 50;m2 3 0;m4 0 0;");
        DUE.is("halves of 49 and 49", x.map(0, 2), 48);
        DUE.is("thirds of 50 and 50", x.map(1, 2), 32);
    }

    private static final String TWELVE = "n8;l0 1 1 50;l0 2 1 50;l0 3 1 50;l0 4 1 50;l0 5 1 50;l0 6 1 50;l0 7 1 50;"
        + "l1 2 1 50;l1 3 1 50;l1 4 1 50;l1 5 1 50;l1 6 1 50;";

    /** KIND 4 counts each line that there is, and none of an older, longer survey. */
    private static void aBlankMapOfTwelveLines() {
        MapDuty x = Due.surveyed(TWELVE + "m4 63 63;m4 0 0;");
        DUE.is("all shown, all true", x.map(0, 2), 600);
        DUE.is("none shown, all true", x.map(1, 2), 0);
        for (int l = 0; l < 12; l++) {
            x.move(l, false);
            DUE.is("shown", x.map(0, 2), 600 - 50 * (l + 1));
            DUE.is("not shown", x.map(1, 2), 16 * (l + 1));
        }
        for (int many = 11; many >= 0; many--) {
            Due.feed(x, TWELVE.substring(0, 3 + 10 * many).replace(" 1 50;", " 0 50;") + "m4 0 0;");
            DUE.is("a shorter survey", x.survey(), many);
            DUE.is("not shown", x.map(0, 2), 16 * many);
            x = Due.surveyed(TWELVE + "m4 0 0;");
        }
    }

    /** Promise 6: "4 MAPS that SHOW it (a SET of MAPS)": none, the first, the last, all. */
    private static void mapsThatShowALine() {
        MapDuty x = Due.surveyed("n4;l0 1 1 1;l1 2 1 1;l2 3 1 1;l3 0 1 1;m0 10 0;m0 8 0;m0 8 0;m0 8 0;m0 12 0;");
        DUE.is("none", x.line(0, 4), 0);
        DUE.is("the first", x.line(1, 4), 1);
        DUE.is("the last", x.line(2, 4), 16);
        DUE.is("all", x.line(3, 4), 31);
        DUE.is("no maps", Due.surveyed("n2;l0 1 1 1;").line(0, 4), 0);
    }

    /** DRAWN, MOVED, COPIED at the first and at the last line and map. */
    private static void firstAndLastLine() {
        MapDuty x = Due.surveyed(TWELVE + "m0 0 0;m0 0 0;m0 0 0;m0 0 0;m0 1 32;");
        DUE.is("draw the last on the last", x.draw(4, 11, false), 1);
        DUE.is("draw the first on the last", x.draw(4, 0, false), 1);
        DUE.is("draw the last on the first", x.draw(0, 11, true), 0);
        DUE.is("draw the first on the first", x.draw(0, 0, true), 0);
        DUE.is("draw it again", x.draw(0, 0, true), 1);
        DUE.is("the first shows", x.map(0, 1), 2049);
        DUE.is("the last shows", x.map(4, 1), 0);
        DUE.is("move the first", x.move(0, false), 1);
        DUE.is("move the last", x.move(11, false), 1);
        DUE.is("move it again", x.move(11, false), 0);
        DUE.is("the land", x.told(6), 4095 - 2049);
        DUE.is("copy the first to the last", x.copy(4, 0), 0);
        DUE.is("the last shows", x.map(4, 1), 2049);
        x.draw(4, 5, true);
        DUE.is("copy the last to the first", x.copy(0, 4), 2049);
        DUE.is("the first shows", x.map(0, 1), 2049 + 32);
        DUE.is("shown by", x.line(11, 4), 17);
    }

    /** Owes 99900 and as much more, by a day each; lines 2, 3 are worth 1 and 2, line 4 is not true. */
    private static MapDuty owing(int more) {
        MapDuty x = Due.surveyed("n4;l0 1 1 50;l1 2 1 50;l2 3 1 1;l3 0 1 2;l0 2 0 0;m0 3 0;i1;");
        for (int n = 0; n < 16; n++) {
            x.day(60);
        }
        x.day(39);
        shows(x, 4);
        for (int n = 0; n < more; n++) {
            x.day(1);
        }
        DUE.is("owes", x.map(0, 3), 99900 + more);
        return x;
    }

    private static void shows(MapDuty x, int set) {
        for (int l = 0; l < x.told(1); l++) {
            x.draw(0, l, (set >> l & 1) == 1);
        }
    }

    /** "A DAY: each MAP OWES its DUTY more (99999 at most)". */
    private static void owed99999AtMost() {
        MapDuty x = owing(98);
        x.keep(0);
        shows(x, 0);
        DUE.is("99998 and 0", x.day(1), 99998);
        x.goBack(0);
        DUE.is("99998 and 1", x.day(1), 99999);
        DUE.is("owes", x.map(0, 3), 99999);
        DUE.is("and 1 more", x.day(1), 99999);
        DUE.is("owes", x.map(0, 3), 99999);
        DUE.is("it is assessed with its duty", x.assess(0), 100000);
        DUE.is("owes", x.map(0, 3), 0);
        DUE.is("paid", x.told(7), 100000);
        DUE.is("from there on", x.day(1), 1);
        x.goBack(0);
        shows(x, 8);
        DUE.is("99998 and 2", x.day(1), 99999);
        x.goBack(0);
        DUE.is("99998 and 60 times 1", x.day(60), 99999);
        x.goBack(0);
        shows(x, 15);
        DUE.is("99998 and 60 times 103", x.day(60), 99999);
        DUE.is("days go on", x.told(5), 999 + 98 + 60);
        x.goBack(0);
        // 4 by the first draw of 5: nothing comes ahead of the day
        x.seed(2147483647);
        shows(x, 15);
        DUE.is("99998 and 103 by draws", x.drift(1), 99999);
    }

    /** "the bounds of what is OWED": a fine comes to it as a day's duty does, and is told whole. */
    private static void owed99999AtMostByAFine() {
        MapDuty x = owing(88);
        shows(x, 16);
        DUE.is("a fine at 99988", x.inspect(0, 0), 10);
        DUE.is("owes", x.map(0, 3), 99998);
        x = owing(89);
        shows(x, 16);
        DUE.is("a fine at 99989", x.inspect(0, 0), 10);
        DUE.is("owes", x.map(0, 3), 99999);
        DUE.is("a fine at 99999", x.inspect(0, 0), 10);
        DUE.is("owes", x.map(0, 3), 99999);
        x = owing(90);
        shows(x, 16);
        DUE.is("a fine at 99990", x.inspect(0, 0), 10);
        DUE.is("owes", x.map(0, 3), 99999);
    }

    private static void eachMapOwesForItself() {
        MapDuty x = Due.surveyed(TWELVE + "m1 63 63;m1 63 63;m0 1 0;");
        x.day(60);
        DUE.is("83 days of 1200, 1200 and 50", x.day(23), 2 * 99600 + 83 * 50);
        DUE.is("two at their end", x.day(1), 2 * 99999 + 84 * 50);
        DUE.is("they stay there", x.day(1), 2 * 99999 + 85 * 50);
    }

    /** Four royal maps of 1006 a day; map 4 is of kind 0 and shows nothing; 999998 are paid. */
    private static MapDuty paid999998() {
        MapDuty x = Due.surveyed(TWELVE.replace("l1 5 1 50;l1 6 1 50;", "l1 5 1 1;l1 6 1 2;")
            + "m1 63 63;m1 63 63;m1 63 63;m1 63 63;m0 0 0;");
        for (int round = 0; round < 2; round++) {
            x.day(60);
            x.day(39);
            for (int m = 0; m < 4; m++) {
                DUE.is("99 days and a duty", x.assess(m), 100 * 1006);
            }
        }
        x.day(60);
        x.day(33);
        DUE.is("93 days and a duty", x.assess(0), 94 * 1006);
        DUE.is("93 days and a duty", x.assess(1), 94 * 1006);
        DUE.is("paid", x.told(7), 8 * 100600 + 2 * 94564);
        pay(x, 1023, 500, 12);
        pay(x, 1, 50, 1);
        pay(x, 2048, 2, 10);
        DUE.is("paid", x.told(7), 999998);
        return x;
    }

    private static void pay(MapDuty x, int set, int duty, int times) {
        for (int l = 0; l < 12; l++) {
            x.draw(4, l, (set >> l & 1) == 1);
        }
        for (int n = 0; n < times; n++) {
            DUE.is("map 4 pays", x.assess(4), duty);
        }
    }

    /** "PAID (of all) is as much more (999999 at most)". */
    private static void paid999999AtMost() {
        MapDuty x = paid999998();
        x.keep(0);
        pay(x, 0, 0, 1);
        DUE.is("999998 and 0", x.told(7), 999998);
        pay(x, 1024, 1, 1);
        DUE.is("999998 and 1", x.told(7), 999999);
        pay(x, 1024, 1, 1);
        DUE.is("999999 and 1", x.told(7), 999999);
        x.goBack(0);
        pay(x, 2048, 2, 1);
        DUE.is("999998 and 2", x.told(7), 999999);
        x.goBack(0);
        DUE.is("all is told", x.assess(2), 94 * 1006);
        DUE.is("999998 and more", x.told(7), 999999);
        DUE.is("it owes 0 then", x.map(2, 3), 0);
        x.undo();
        DUE.is("undone", x.told(7), 999998);
        DUE.is("it owes as ahead", x.map(2, 3), 93 * 1006);
    }

    /** 512 calls cannot make so many fall, so the number is put there by its name in the class. */
    private static void putFell(MapDuty x, int many) throws ReflectiveOperationException {
        Field now = MapDuty.class.getDeclaredField("now");
        now.setAccessible(true);
        Object standing = now.get(x);
        Field fell = standing.getClass().getDeclaredField("fell");
        fell.setAccessible(true);
        fell.setInt(standing, many);
        DUE.is("fell", x.told(8), many);
    }

    /** "At the first that is not TRUE one FALLS (counted, 999999 at most)". */
    private static void fell999999AtMost() throws ReflectiveOperationException {
        MapDuty x = Due.surveyed("n3;l0 1 0 1;l1 2 1 1;m0 3 0;");
        for (int n = 1; n <= 3; n++) {
            DUE.is("one falls", x.walk(0, 0, 1), 0);
            DUE.is("counted", x.told(8), n);
        }
        putFell(x, 999998);
        DUE.is("one does not fall", x.walk(0, 1, 2), 1);
        DUE.is("not counted", x.told(8), 999998);
        DUE.is("one falls", x.walk(0, 0, 1), 0);
        DUE.is("counted", x.told(8), 999999);
        DUE.is("one falls", x.walk(0, 0, 1), 0);
        DUE.is("no more", x.told(8), 999999);
    }

    /** Promises 14, 15: "n DAYS (1 .. 60)"; "DAYS are one more" by each. */
    private static void days1To60() {
        for (int n = -1; n <= 62; n++) {
            MapDuty x = Due.surveyed("n2;l0 1 1 3;m0 1 0;m1 1 0;");
            boolean within = n >= 1 && n <= 60;
            DUE.is("day(" + n + ")", x.day(n), within ? 9 * n : Due.OUTSIDE);
            DUE.is("days", x.told(5), within ? n : 0);
            x = Due.surveyed("n2;m0 0 0;");
            DUE.is("drift(" + n + ")", x.drift(n), within ? 0 : Due.OUTSIDE);
            DUE.is("days", x.told(5), within ? n : 0);
        }
    }

    private static MapDuty daysGone(int days) {
        MapDuty x = Due.surveyed("n2;l0 1 0 0;m0 0 0;");
        for (int left = days; left > 0; left -= 60) {
            x.day(Math.min(60, left));
        }
        DUE.is("days", x.told(5), days);
        return x;
    }

    /** Promises 14, 15: "FULL: DAYS are above 9000". */
    private static void daysAbove9000() {
        for (int days = 8999; days <= 9002; days++) {
            boolean full = days > 9000;
            MapDuty x = daysGone(Math.min(days, 9000));
            if (full) {
                x.day(days - 9000);
            }
            DUE.is("day(60) at " + days, x.day(60), full ? Due.FULL : 0);
            DUE.is("days", x.told(5), full ? days : days + 60);
            x = daysGone(Math.min(days, 9000));
            if (full) {
                x.drift(days - 9000);
            }
            DUE.is("drift(60) at " + days, x.drift(60), full ? Due.FULL : 0);
            DUE.is("days", x.told(5), full ? days : days + 60);
            DUE.is("and then", x.day(1), Due.FULL);
        }
    }

    /** "of LINES that a MAP SHOWS he looks at as many as his CHAIN": fewer, as many and more than it shows. */
    private static void chainAndLinesShown() {
        String untrue = TWELVE.replace(" 1 50;", " 0 50;");
        for (int chain = 1; chain <= 12; chain++) {
            MapDuty x = Due.surveyed(untrue + "m0 0 0;i" + chain + ";");
            DUE.is("nothing shown", x.inspect(0, 0), 0);
            for (int shown = 1; shown <= 12; shown++) {
                x.draw(0, 12 - shown, true);
                int fine = 10 * Math.min(shown, chain);
                DUE.is("finds by " + chain + " of " + shown, x.finds(0, 0), fine);
                DUE.is("inspect by " + chain + " of " + shown, x.inspect(0, 0), fine);
            }
        }
        // lines that are not shown take nothing of the chain, lines that are true do
        MapDuty y = Due.surveyed("n4;l0 1 0 9;l1 2 0 8;l2 3 1 7;l3 0 0 6;m0 14 0;i1;i2;i3;");
        DUE.is("line 1", y.inspect(0, 0), 10);
        DUE.is("lines 1, 2", y.inspect(1, 0), 10);
        DUE.is("lines 1, 2, 3", y.inspect(2, 0), 20);
        DUE.is("owes", y.map(0, 3), 40);
    }

    /** "those of most D first, of like ones the least". */
    private static void ofLikeOnesTheLeastIsLookedAt() {
        String like = "n4;l0 1 %d 50;l1 2 %d 50;l2 3 %d 50;m0 7 0;i1;i2;i3;";
        for (int untrue = 0; untrue < 3; untrue++) {
            MapDuty x = Due.surveyed(String.format(like, untrue == 0 ? 0 : 1, untrue == 1 ? 0 : 1, untrue == 2 ? 0 : 1));
            for (int i = 0; i < 3; i++) {
                DUE.is("line " + untrue + " by a chain of " + (i + 1), x.inspect(i, 0), untrue <= i ? 10 : 0);
            }
        }
        // 49 is less than 50, 0 is the least: lines 1, 0, 2
        MapDuty y = Due.surveyed("n4;l0 1 0 49;l1 2 1 50;l2 3 0 0;m0 7 0;i1;i2;i3;");
        DUE.is("of most first", y.inspect(0, 0), 0);
        DUE.is("then the next", y.inspect(1, 0), 10);
        DUE.is("then those of 0", y.inspect(2, 0), 20);
    }

    private static final int[][] WORTHS = {
        {0, 1, 2, 3, 4, 5, 6, 46, 47, 48, 49, 50},
        {50, 49, 48, 47, 46, 6, 5, 4, 3, 2, 1, 0},
        {25, 50, 10, 40, 20, 30, 45, 5, 35, 15, 0, 48},
        {7, 7, 50, 7, 0, 50, 7, 0, 50, 50, 0, 7},
    };

    /** One of twelve lines is not true: a chain finds it if fewer lines than it is long come ahead of that one. */
    private static void ofMostDutyFirst() {
        for (int[] worth : WORTHS) {
            for (int untrue = 0; untrue < 12; untrue++) {
                String text = twelve(worth, untrue);
                int ahead = 0;
                for (int l = 0; l < 12; l++) {
                    ahead += worth[l] > worth[untrue] || worth[l] == worth[untrue] && l < untrue ? 1 : 0;
                }
                for (int chain = 1; chain <= 12; chain++) {
                    MapDuty x = Due.surveyed(text + "m0 63 63;i" + chain + ";");
                    DUE.is("a chain of " + chain + " of '" + text + "'", x.inspect(0, 0), ahead < chain ? 10 : 0);
                }
            }
        }
    }

    private static String twelve(int[] worth, int untrue) {
        String[] clauses = TWELVE.split(";");
        StringBuilder text = new StringBuilder(clauses[0] + ";");
        for (int l = 0; l < 12; l++) {
            text.append(clauses[l + 1].replace(" 1 50", (l == untrue ? " 0 " : " 1 ") + worth[l])).append(';');
        }
        return text.toString();
    }

    private static void aWayGoesEitherWay() {
        MapDuty x = Due.surveyed("n3;l1 0 1 1;l1 2 1 1;m0 3 0;");
        DUE.is("from A to B", x.walk(0, 1, 0), 1);
        DUE.is("from B to A", x.walk(0, 0, 1), 1);
        DUE.is("from B over A", x.walk(0, 0, 2), 1);
        x.draw(0, 1, false);
        DUE.is("no way there", x.walk(0, 0, 2), Due.NOT);
        DUE.is("no way back", x.walk(0, 2, 0), Due.NOT);
        x.draw(0, 0, false);
        DUE.is("no lines", x.walk(0, 0, 1), Due.NOT);
    }

    /** "the fewest LINES": one of lesser numbers with a line more does not count. */
    private static void theFewestLines() {
        MapDuty x = Due.surveyed("n4;l0 1 1 1;l1 2 1 1;l2 3 1 1;l0 3 0 1;m0 15 0;");
        DUE.is("by line 3, not by 0, 1, 2", x.walk(0, 0, 3), 0);
        DUE.is("as many both ways: 0, 1, not 3, 2", x.walk(0, 0, 2), 1);
        DUE.is("as many both ways: 0, 3, not 1, 2", x.walk(0, 1, 3), 0);
    }

    /** "of like ones the first (LINE by LINE the lesser number)". */
    private static void ofLikeWaysTheFirst() {
        // from 0 to 4: lines 0 and 3 by 1, lines 1 and 2 by 2: the first line decides, not the second
        MapDuty x = Due.surveyed("n5;l0 1 1 1;l0 2 1 1;l2 4 0 1;l1 4 1 1;m0 15 0;");
        DUE.is("by 0 and 3", x.walk(0, 0, 4), 1);
        DUE.is("back by 2 and 1", x.walk(0, 4, 0), 0);
        // from 0 to 4 by 1 first: then lines 1, 4 by 2 or lines 2, 3 by 3: the second line decides
        x = Due.surveyed("n5;l0 1 1 1;l1 2 1 1;l1 3 1 1;l3 4 0 1;l2 4 1 1;m0 31 0;");
        DUE.is("by 0, 1 and 4", x.walk(0, 0, 4), 1);
        DUE.is("back by 3, 2 and 0", x.walk(0, 4, 0), 0);
    }

    /** Promise 13: "1 one comes there, 0 one FALLS": at the first line, at the last of seven, at none. */
    private static void whereOneFalls() {
        String row = "n8;l0 1 1 1;l1 2 1 1;l2 3 1 1;l3 4 1 1;l4 5 1 1;l5 6 1 1;l6 7 1 1;m0 63 1;";
        for (int untrue = 0; untrue < 7; untrue++) {
            MapDuty x = Due.surveyed(row);
            DUE.is("all are true", x.walk(0, 0, 7), 1);
            DUE.is("nobody falls", x.told(8), 0);
            x.move(untrue, false);
            DUE.is("line " + untrue + " is not", x.walk(0, 0, 7), 0);
            DUE.is("one falls", x.told(8), 1);
            DUE.is("up to it one comes", untrue == 0 ? 1 : x.walk(0, 0, untrue), 1);
            x.move((untrue + 1) % 7, false);
            DUE.is("two are not", x.walk(0, 7, 0), 0);
            DUE.is("one falls once", x.told(8), 2);
        }
    }
}
