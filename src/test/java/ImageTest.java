/** Promises 29 to 31: seed, keep, goBack. */
public final class ImageTest {
    private static final Due DUE = new Due();

    public static void main(String[] args) {
        seed();
        keep();
        goBack();
        twoImages();
        withoutSurvey();
        DUE.end();
    }

    private static void seed() {
        MapDuty x = new MapDuty();
        DUE.is("0 at first", x.seed(2147483647), 0);
        DUE.is("the most", x.seed(0), 2147483647);
        DUE.is("-1", x.seed(-1), Due.OUTSIDE);
        DUE.is("least", x.seed(Integer.MIN_VALUE), Due.OUTSIDE);
        DUE.is("refused: as it was", x.seed(7), 0);
        MapDuty y = Due.surveyed("n2;l0 1 1 1;");
        y.seed(2147483647);
        // 2147483647 * 1103515245 + 12345 is like 12345 - 1103515245, so like 1043980748: 15929, of 5 on 4
        y.drift(1);
        DUE.is("drawn once", y.seed(0), 1043980748);
    }

    private static void keep() {
        MapDuty x = Due.surveyed(Due.FIVE);
        x.day(1);
        DUE.is("keep 2", x.keep(2), Due.UNKNOWN);
        DUE.is("keep -1", x.keep(-1), Due.UNKNOWN);
        DUE.is("refused: can be undone", x.told(14), 1);
        DUE.is("keep 1", x.keep(1), 1);
        DUE.is("can be undone", x.told(14), 0);
        DUE.is("undo", x.undo(), Due.NOT);
        DUE.is("days", x.told(5), 1);
    }

    private static void goBack() {
        MapDuty x = Due.surveyed(Due.FIVE);
        DUE.is("not kept", x.goBack(0), Due.NOT);
        DUE.is("image 2", x.goBack(2), Due.UNKNOWN);
        DUE.is("image -1", x.goBack(-1), Due.UNKNOWN);
        x.seed(12);
        x.day(2);
        x.assess(0);
        x.walk(0, 2, 3);
        x.move(0, false);
        x.draw(1, 3, true);
        x.keep(0);
        x.journey(0, 1);
        x.write(0, 0);
        x.move(0, true);
        x.draw(1, 3, false);
        x.walk(0, 2, 3);
        x.drift(30);
        x.assess(1);
        DUE.is("go back", x.goBack(0), 1);
        int[] due = {5, 6, 5, 2, 0, 2, 26, 138, 1, 26, 3, 2, 1, 1, 0};
        for (int what = 0; what < due.length; what++) {
            DUE.is("told " + what, x.told(what), due[what]);
        }
        DUE.is("shows", x.map(1, 1), 39 | 8);
        DUE.is("owes", x.map(1, 3), 68);
        DUE.is("undo", x.undo(), Due.NOT);
        DUE.is("the seed", x.seed(1), 12);
        x.day(1);
        DUE.is("go back again", x.goBack(0), 1);
        DUE.is("days", x.told(5), 2);
        DUE.is("the seed", x.seed(1), 12);
        DUE.is("the other was not kept", x.goBack(1), Due.NOT);
    }

    private static void twoImages() {
        MapDuty x = Due.surveyed(Due.FIVE);
        x.keep(0);
        x.day(1);
        x.keep(1);
        x.day(1);
        x.goBack(0);
        DUE.is("image 0", x.told(5), 0);
        x.goBack(1);
        DUE.is("image 1", x.told(5), 1);
        x.keep(0);
        x.day(5);
        x.goBack(0);
        DUE.is("image 0 kept again", x.told(5), 1);
        Due.feed(x, "n2;;");
        x.survey();
        DUE.is("behind a fault", x.goBack(1), 1);
        Due.feed(x, Due.FIVE);
        x.survey();
        DUE.is("behind a survey", x.goBack(0), Due.NOT);
        DUE.is("behind a survey", x.goBack(1), Due.NOT);
    }

    private static void withoutSurvey() {
        MapDuty x = new MapDuty();
        x.seed(8);
        DUE.is("keep", x.keep(0), 1);
        x.seed(9);
        DUE.is("go back", x.goBack(0), 1);
        DUE.is("the seed", x.seed(0), 8);
    }
}
