/** Promises 25 to 28: journey, write, tear, judge. */
public final class BookTest {
    private static final Due DUE = new Due();

    public static void main(String[] args) {
        journey();
        write();
        tear();
        judge();
        DUE.end();
    }

    private static void journey() {
        MapDuty x = Due.surveyed(Due.FIVE);
        DUE.is("a place twice", x.journey(1, 1), Due.UNKNOWN);
        DUE.is("place 5", x.journey(0, 5), Due.UNKNOWN);
        DUE.is("place -1", x.journey(-1, 0), Due.UNKNOWN);
        DUE.is("none yet", x.told(12), 0);
        for (int n = 1; n <= 4; n++) {
            DUE.is("journey", x.journey(0, n), n);
        }
        DUE.is("full", x.journey(0, 1), Due.FULL);
        DUE.is("unknown ahead of full", x.journey(0, 0), Due.UNKNOWN);
        DUE.is("four", x.told(12), 4);
        DUE.is("no survey", new MapDuty().journey(0, 1), Due.UNKNOWN);
    }

    private static void write() {
        MapDuty x = Due.surveyed(Due.FIVE);
        DUE.is("map 5", x.write(5, 0), Due.UNKNOWN);
        DUE.is("map -1", x.write(-1, 0), Due.UNKNOWN);
        DUE.is("owes -1", x.write(0, -1), Due.OUTSIDE);
        DUE.is("owes 100000", x.write(0, 100000), Due.OUTSIDE);
        DUE.is("unknown ahead of outside", x.write(5, -1), Due.UNKNOWN);
        for (int n = 1; n <= 15; n++) {
            DUE.is("write", x.write(n % 5, n == 7 ? 99999 : 0), n);
        }
        DUE.is("full", x.write(0, 0), Due.FULL);
        DUE.is("outside ahead of full", x.write(0, -1), Due.OUTSIDE);
        DUE.is("unknown ahead of full", x.write(5, 0), Due.UNKNOWN);
        DUE.is("fifteen", x.told(13), 15);
        DUE.is("the seventh is wrong", x.judge(), 6);
        DUE.is("no survey", new MapDuty().write(0, 0), Due.UNKNOWN);
    }

    private static void tear() {
        MapDuty x = Due.surveyed(Due.FIVE);
        DUE.is("tear nothing", x.tear(), 0);
        x.journey(0, 4);
        x.journey(0, 1);
        x.write(0, 1);
        x.write(1, 1);
        x.write(2, 1);
        x.day(1);
        DUE.is("tear both", x.tear(), 5);
        DUE.is("journeys", x.told(12), 0);
        DUE.is("entries", x.told(13), 0);
        DUE.is("judge", x.judge(), Due.NONE);
        DUE.is("least", x.least(0, 0), 0);
        DUE.is("tear is not undone", x.undo(), 0);
        DUE.is("journeys", x.told(12), 0);
        DUE.is("tear again", x.tear(), 0);
        DUE.is("journey", x.journey(0, 1), 1);
        DUE.is("write", x.write(0, 0), 1);
    }

    private static void judge() {
        MapDuty x = Due.surveyed(Due.FIVE);
        DUE.is("an empty book", x.judge(), Due.NONE);
        x.write(0, 0);
        x.write(1, 34);
        x.write(0, 46);
        DUE.is("the second", x.judge(), 1);
        x.day(1);
        DUE.is("the first", x.judge(), 0);
        x.assess(0);
        DUE.is("the third", x.judge(), 2);
        x.tear();
        x.write(0, 0);
        x.write(3, 4);
        DUE.is("all are as told", x.judge(), Due.NONE);
    }
}
