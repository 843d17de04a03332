/** Promises 1 to 7: a new object, feed, survey, fault, told, line, map. */
public final class SurveyTest {
    private static final Due DUE = new Due();

    public static void main(String[] args) {
        newObject();
        feed();
        surveyAnswers();
        faultsOfWords();
        faultsOfNumbers();
        faultsOfLines();
        faultsOfMapsAndInspectors();
        surveyBeginsAnew();
        faultChangesNothingElse();
        blankTextIsNoSurvey();
        told();
        line();
        map();
        dutyByKind();
        wayOfPrice();
        DUE.end();
    }

    private static void newObject() {
        MapDuty x = new MapDuty();
        for (int what = 0; what <= 14; what++) {
            DUE.is("new told " + what, x.told(what), what == 10 || what == 11 ? Due.NONE : 0);
        }
        DUE.is("new fault", x.fault(), Due.NONE);
        DUE.is("new line", x.line(0, 0), Due.UNKNOWN);
        DUE.is("new map", x.map(0, 0), Due.UNKNOWN);
        DUE.is("new cutOff", x.cutOff(0), Due.UNKNOWN);
        DUE.is("new day", x.day(1), Due.NOT);
        DUE.is("new undo", x.undo(), Due.NOT);
        DUE.is("new goBack", x.goBack(0), Due.NOT);
        DUE.is("new seed", x.seed(3), 0);
    }

    private static void feed() {
        MapDuty x = new MapDuty();
        DUE.is("feed -1", x.feed(-1), Due.OUTSIDE);
        DUE.is("feed 256", x.feed(256), Due.OUTSIDE);
        DUE.is("feed least", x.feed(Integer.MIN_VALUE), Due.OUTSIDE);
        DUE.is("letters", x.told(4), 0);
        for (int n = 1; n <= 240; n++) {
            DUE.is("feed the " + n, x.feed(n % 2 == 0 ? 0 : 255), n);
        }
        DUE.is("feed the 241st", x.feed(32), Due.FULL);
        DUE.is("feed outside ahead of full", x.feed(256), Due.OUTSIDE);
        DUE.is("letters", x.told(4), 240);
        DUE.is("survey of it", x.survey(), -11);
        DUE.is("letters behind a survey", x.told(4), 0);
        DUE.is("feed again", x.feed(32), 1);
    }

    private static void surveyAnswers() {
        DUE.reads("", 0, -1);
        DUE.reads("   ", 0, -1);
        DUE.reads("n2;", 0, -1);
        DUE.reads("n8;", 0, -1);
        DUE.reads("n002;", 0, -1);
        DUE.reads("  n 2 ; l 0 1 1 50 ; m 4 1 0 ; i 12 ; ", 1, -1);
        DUE.reads("n3;l0 1 0 0;l1 2 1 050;", 2, -1);
        DUE.reads("n2;i1;l0 1 1 1;i12;m0 1 0;i3;m0 0 0;i4;", 1, -1);
        DUE.reads(Due.FIVE, 6, -1);
        DUE.reads(twelveLines() + "m0 63 63;m1 0 32;", 12, -1);
        DUE.reads(sevenLines() + "m0 63 1;", 7, -1);
    }

    private static String twelveLines() {
        return "n8;l0 1 1 1;l0 2 1 1;l0 3 1 1;l0 4 1 1;l0 5 1 1;l0 6 1 1;l0 7 1 1;"
            + "l1 2 1 1;l1 3 1 1;l1 4 1 1;l1 5 1 1;l1 6 1 1;";
    }

    private static String sevenLines() {
        return twelveLines().substring(0, 3 + 7 * 9);
    }

    private static void faultsOfWords() {
        DUE.reads("l0 1 1 1;", -11, 0);
        DUE.reads("m0 0 0;", -11, 0);
        DUE.reads("i1;", -11, 0);
        DUE.reads("x", -11, 0);
        DUE.reads("N2;", -11, 0);
        DUE.reads("5", -11, 0);
        DUE.reads(";", -11, 0);
        DUE.reads("   x", -11, 3);
        DUE.reads("\tn2;", -11, 0);
        DUE.reads("n2;\u00ff", -11, 3);
        DUE.reads("n2;\0", -11, 3);
        DUE.reads("n2;;", -11, 3);
        DUE.reads("n2; 3", -11, 4);
        DUE.reads("n2;n", -13, 3);
        DUE.reads("n2; n3;", -13, 4);
        DUE.reads(twelveLines() + "l", -13, 111);
        DUE.reads(twelveLines() + " l7 6 1 1;", -13, 112);
        DUE.reads(twelveLines() + "m0 0 0;l", -11, 118);
        DUE.reads("n2;m0 0 0;l0 1 1 1;", -11, 10);
        DUE.reads("n2;m0 0 0;m0 0 0;m0 0 0;m0 0 0;m0 0 0;m", -13, 38);
        DUE.reads("n2;i1;i1;i1;i1;i1;", -13, 15);
    }

    private static void faultsOfNumbers() {
        DUE.reads("n", -11, 1);
        DUE.reads("n  ", -11, 3);
        DUE.reads("n5", -11, 2);
        DUE.reads("n5 ", -11, 3);
        DUE.reads("n;", -11, 1);
        DUE.reads("n-2;", -11, 1);
        DUE.reads("nn", -11, 1);
        DUE.reads("n1;", -12, 1);
        DUE.reads("n0;", -12, 1);
        DUE.reads("n9;", -12, 1);
        DUE.reads("n9", -12, 1);
        DUE.reads("n0002;", -12, 1);
        DUE.reads("n  0002", -12, 3);
        DUE.reads("n99999999999999999999;", -12, 1);
        DUE.reads("n4294967298;", -12, 1);
        DUE.reads("n1 2;", -12, 1);
        DUE.reads("n2 2;", -11, 3);
        DUE.reads("n2,", -11, 2);
        DUE.reads("n2l", -11, 2);
    }

    private static void faultsOfLines() {
        DUE.reads("n3;l0 3 1 1;", -12, 6);
        DUE.reads("n3;l3 0 1 1;", -12, 4);
        DUE.reads("n3;l3 3 1 1;", -12, 4);
        DUE.reads("n3;l0 0 1 1;", -14, 6);
        DUE.reads("n3;l0 0", -14, 6);
        DUE.reads("n3;l0 0000 1 1;", -12, 6);
        DUE.reads("n3;l01 1 1 1;", -14, 7);
        DUE.reads("n3;l0 1 1 1;l1 0 0 0;", -14, 15);
        DUE.reads("n3;l0 1 1 1;l0 1 0 0;", -14, 15);
        DUE.reads("n3;l0 1 1 1;l0   1 9 9;", -14, 17);
        DUE.reads("n3;l0 1 1 1;l1 2 0 0;l2 1 0 0;", -14, 24);
        DUE.reads("n3;l0 1 2 1;", -12, 8);
        DUE.reads("n3;l0 1 1 51;", -12, 10);
        DUE.reads("n3;l0 1 1 1000;", -12, 10);
        DUE.reads("n3;l0 1 1;", -11, 9);
        DUE.reads("n3;l0 1 1 1 1;", -11, 12);
        DUE.reads("n3;l0 1 1 1", -11, 11);
        DUE.reads("n3;l", -11, 4);
        DUE.reads("n3;l0 ", -11, 6);
        DUE.reads("n3;l0 1 ", -11, 8);
        DUE.reads("n3;l0 x", -11, 6);
    }

    private static void faultsOfMapsAndInspectors() {
        DUE.reads("n2;l0 1 1 1;m5 0 0;", -12, 13);
        DUE.reads("n2;l0 1 1 1;m0 2 0;", -12, 15);
        DUE.reads("n2;l0 1 1 1;m0 3 0;", -12, 15);
        DUE.reads("n2;l0 1 1 1;m0 64 0;", -12, 15);
        DUE.reads("n2;l0 1 1 1;m0 1 1;", -12, 17);
        DUE.reads("n2;l0 1 1 1;m0 1 64;", -12, 17);
        DUE.reads("n2;l0 1 1 1;m0 1;", -11, 16);
        DUE.reads("n2;l0 1 1 1;m0 1 0", -11, 18);
        DUE.reads("n2;m0 1 0;", -12, 6);
        DUE.reads(sevenLines() + "m0 63 2;", -12, 72);
        DUE.reads(sevenLines() + "m0 63 3;", -12, 72);
        DUE.reads(twelveLines() + "m0 64 0;", -12, 114);
        DUE.reads(twelveLines() + "m0 63 64;", -12, 117);
        DUE.reads("n2;i0;", -12, 4);
        DUE.reads("n2;i13;", -12, 4);
        DUE.reads("n2;i;", -11, 4);
        DUE.reads("n2;i1 1;", -11, 6);
        DUE.reads("n2;i1", -11, 5);
    }

    private static MapDuty busy() {
        MapDuty x = Due.surveyed(Due.FIVE);
        x.keep(0);
        x.seed(77);
        x.day(2);
        x.assess(1);
        x.walk(0, 2, 3);
        x.move(0, false);
        x.draw(0, 0, false);
        x.journey(0, 1);
        x.write(0, 5);
        return x;
    }

    private static void surveyBeginsAnew() {
        MapDuty x = busy();
        Due.feed(x, Due.FIVE);
        DUE.is("survey anew", x.survey(), 6);
        int[] due = {5, 6, 5, 2, 0, 0, 27, 0, 0, 2, 4, 2, 0, 0, 0};
        for (int what = 0; what < due.length; what++) {
            DUE.is("anew told " + what, x.told(what), due[what]);
        }
        DUE.is("anew shows", x.map(0, 1), 31);
        DUE.is("anew owes", x.map(0, 3), 0);
        DUE.is("anew image", x.goBack(0), Due.NOT);
        DUE.is("anew undo", x.undo(), Due.NOT);
        DUE.is("the seed stays", x.seed(0), 77);
        Due.feed(x, "n2;l0 1 0 9;");
        DUE.is("a smaller survey", x.survey(), 1);
        DUE.is("its maps", x.told(2), 0);
        DUE.is("its inspectors", x.told(3), 0);
        DUE.is("its land", x.told(6), 0);
        DUE.is("its second line", x.line(1, 0), Due.UNKNOWN);
        DUE.is("its third place", x.cutOff(2), Due.UNKNOWN);
    }

    private static void faultChangesNothingElse() {
        MapDuty x = busy();
        Due.feed(x, "n2;l0 1 1 1;i1;i0;");
        DUE.is("a fault", x.survey(), -12);
        DUE.is("its letter", x.fault(), 16);
        int[] due = {5, 6, 5, 2, 0, 2, 26, 102, 1, 26, 3, 0, 1, 1, 5};
        for (int what = 0; what < due.length; what++) {
            DUE.is("behind a fault told " + what, x.told(what), due[what]);
        }
        DUE.is("behind a fault undo", x.undo(), 4);
        DUE.is("behind a fault line", x.line(5, 1), 4);
        DUE.is("behind a fault map", x.map(4, 0), 4);
        DUE.is("behind a fault inspector", x.finds(1, 3), 30);
        DUE.is("behind a fault goBack", x.goBack(0), 1);
        DUE.is("a good one", x.survey(), 0);
        DUE.is("no fault any more", x.fault(), Due.NONE);
    }

    private static void blankTextIsNoSurvey() {
        MapDuty x = busy();
        Due.feed(x, "  ");
        DUE.is("a blank text", x.survey(), 0);
        for (int what = 0; what <= 14; what++) {
            DUE.is("blank told " + what, x.told(what), what == 10 || what == 11 ? Due.NONE : 0);
        }
        DUE.is("blank day", x.day(1), Due.NOT);
        DUE.is("blank image", x.goBack(0), Due.NOT);
        DUE.is("blank seed", x.seed(1), 77);
    }

    private static void told() {
        MapDuty x = Due.surveyed(Due.FIVE);
        DUE.is("told -1", x.told(-1), Due.OUTSIDE);
        DUE.is("told 15", x.told(15), Due.OUTSIDE);
        DUE.is("told most", x.told(Integer.MAX_VALUE), Due.OUTSIDE);
        x.feed(65);
        DUE.is("told letters", x.told(4), 1);
        x.move(1, false);
        DUE.is("told land", x.told(6), 25);
        DUE.is("told no bridges in a ring", x.told(9), 0);
        x.move(3, false);
        x.move(5, true);
        DUE.is("told bridges", x.told(9), 1 | 16 | 32);
        // like ones: the least
        MapDuty y = Due.surveyed("n2;l0 1 1 4;m1 0 0;m0 1 0;m3 0 0;m2 1 0;");
        DUE.is("poorest of like ones", y.told(10), 0);
        DUE.is("rightest of like ones", y.told(11), 1);
        y.draw(0, 0, true);
        DUE.is("poorest", y.told(10), 2);
        DUE.is("rightest", y.told(11), 0);
        y.move(0, false);
        DUE.is("rightest where nothing is true", y.told(11), 2);
    }

    private static void line() {
        MapDuty x = Due.surveyed(Due.FIVE);
        int[] due = {3, 0, 1, 9, 1 | 4 | 8};
        for (int what = 0; what < due.length; what++) {
            DUE.is("line 3, " + what, x.line(3, what), due[what]);
        }
        DUE.is("line 0 shown by", x.line(0, 4), 15);
        x.move(3, false);
        x.draw(4, 3, true);
        DUE.is("line moved", x.line(3, 2), 0);
        DUE.is("line drawn", x.line(3, 4), 29);
        DUE.is("line -1", x.line(-1, 0), Due.UNKNOWN);
        DUE.is("line 6", x.line(6, 0), Due.UNKNOWN);
        DUE.is("line what -1", x.line(0, -1), Due.OUTSIDE);
        DUE.is("line what 5", x.line(0, 5), Due.OUTSIDE);
        DUE.is("line unknown first", x.line(6, 5), Due.UNKNOWN);
    }

    private static void map() {
        MapDuty x = Due.surveyed(Due.FIVE);
        int[][] due = {{0, 31, 46, 0, 59, 0, 14}, {1, 39, 34, 0, 3, 0, 0}, {2, 27, 22, 0, 63, 0, 18},
            {3, 63, 4, 0, 27, 0, 10}, {4, 0, 2, 0, 36, 6, 0}};
        // map 1 shows a line of places 0, 1, 2, 3, 4: ways 0-1, 1-2 and 0-2 hold, seven do not
        due[1][6] = 3 * 3 - 7;
        for (int m = 0; m < due.length; m++) {
            for (int what = 0; what < due[m].length; what++) {
                DUE.is("map " + m + ", " + what, x.map(m, what), due[m][what]);
            }
        }
        DUE.is("map -1", x.map(-1, 0), Due.UNKNOWN);
        DUE.is("map 5", x.map(5, 0), Due.UNKNOWN);
        DUE.is("map what -1", x.map(0, -1), Due.OUTSIDE);
        DUE.is("map what 7", x.map(0, 7), Due.OUTSIDE);
        DUE.is("map unknown first", x.map(5, 7), Due.UNKNOWN);
    }

    private static void dutyByKind() {
        MapDuty x = Due.surveyed("n4;l0 1 1 5;l1 2 1 0;l2 3 0 8;l3 0 0 1;l0 2 1 1;"
            + "m0 23 0;m1 23 0;m2 23 0;m3 23 0;m4 23 0;");
        int[] due = {6, 12, 2, 2, 6};
        for (int m = 0; m < due.length; m++) {
            DUE.is("duty of kind " + m, x.map(m, 2), due[m]);
        }
        x.draw(4, 2, false);
        DUE.is("a third of 8 and of 1, cut each", x.map(4, 2), 6 + 2 + 0);
        x.draw(4, 0, false);
        DUE.is("a true line left off is free", x.map(4, 2), 1 + 2);
        x.draw(0, 2, false);
        DUE.is("only a blank one pays for what is not", x.map(0, 2), 6);
    }

    private static void wayOfPrice() {
        // from 0 to 3 two ways of two lines: the first begins with line 0 and holds; from 3 to 0 line 1 would be first
        MapDuty x = Due.surveyed("n4;l0 1 1 1;l3 2 0 1;l2 0 1 1;l1 3 1 1;m0 15 0;");
        DUE.is("from 0 one does not fall", x.way(0, 0, 3, 2), Due.NONE);
        DUE.is("from 3 one falls", x.way(0, 3, 0, 2), 0);
        // 0-1, 0-2, 0-3, 1-3 hold; 1-2 goes by lines 0, 2 and holds; 2-3 falls
        DUE.is("price by ways from the lesser", x.map(0, 6), 5 * 3 - 1);
        x.move(0, false);
        x.move(2, false);
        // only 1-3 holds; 0-1, 0-2, 0-3, 1-2, 2-3 fall
        DUE.is("price is 0 at least", x.map(0, 6), 0);
        DUE.is("lost", x.map(0, 5), 0);
        x.draw(0, 3, false);
        x.draw(0, 0, false);
        DUE.is("lost 1-3", x.map(0, 5), 1);
    }
}
