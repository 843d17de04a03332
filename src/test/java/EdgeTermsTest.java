import java.util.function.ToIntFunction;

/** Terms: NONE, the refusals, of several the first, and "What is refused changes nothing". */
public final class EdgeTermsTest {
    private static final Due DUE = new Due();
    private static final Twins BUSY = new Twins(DUE, "busy", States::busy);
    private static final Twins BARE = new Twins(DUE, "no survey", States::bare);
    private static final Twins FULL_TEXT = new Twins(DUE, "a full text", States::fullText);
    private static final Twins FULL_BOOK = new Twins(DUE, "a full book", States::fullBook);
    private static final Twins FULL_DAYS = new Twins(DUE, "9001 days", States::fullDays);
    private static final Twins NOTHING_DONE = new Twins(DUE, "nothing done", States::nothingDone);

    public static void main(String[] args) {
        numbersOfRefusals();
        aWitnessSeesChanges();
        unknownPlaces();
        onePlaceTwice();
        unknownLines();
        unknownMaps();
        oneMapTwice();
        unknownInspectors();
        unknownImages();
        outsideWhat();
        outsideOthers();
        notNow();
        full();
        unknownComesFirst();
        outsideComesAheadOfNotAndFull();
        withoutSurveyAllIsUnknown();
        DUE.end();
    }

    /** "NONE is -1"; "They are far below all that is counted: -1000000001 and on." */
    private static void numbersOfRefusals() {
        DUE.is("NONE", MapDuty.NONE, -1);
        DUE.is("UNKNOWN", MapDuty.UNKNOWN, -1000000001);
        DUE.is("OUTSIDE", MapDuty.OUTSIDE, -1000000002);
        DUE.is("NOT", MapDuty.NOT, -1000000003);
        DUE.is("FULL", MapDuty.FULL, -1000000004);
    }

    /** A comparison that saw nothing would let every refusal pass. */
    private static void aWitnessSeesChanges() {
        String asItWas = Witness.of(States.busy());
        sees(asItWas, "feed", x -> x.feed(' '));
        sees(asItWas, "a survey with a fault", x -> x.feed('x') + x.survey());
        sees(asItWas, "draw", x -> x.draw(0, 0, true));
        sees(asItWas, "a draw by which nothing changes", x -> x.draw(0, 0, false));
        sees(asItWas, "move", x -> x.move(0, false));
        sees(asItWas, "assess", x -> x.assess(0));
        sees(asItWas, "day", x -> x.day(1));
        sees(asItWas, "undo", x -> x.undo());
        sees(asItWas, "journey", x -> x.journey(0, 1));
        sees(asItWas, "write", x -> x.write(0, 0));
        sees(asItWas, "tear", x -> x.tear());
        sees(asItWas, "seed", x -> x.seed(1));
        sees(asItWas, "keep", x -> x.keep(1));
        sees(asItWas, "goBack", x -> x.goBack(0));
    }

    private static void sees(String asItWas, String call, ToIntFunction<MapDuty> done) {
        MapDuty x = States.busy();
        done.applyAsInt(x);
        DUE.is("a witness sees " + call, Witness.of(x).equals(asItWas) ? 1 : 0, 0);
    }

    private static void unknownPlaces() {
        for (int a : States.outside(0, 4)) {
            BUSY.unchanged("walk(0, " + a + ", 1)", x -> x.walk(0, a, 1), Due.UNKNOWN);
            BUSY.unchanged("walk(0, 1, " + a + ")", x -> x.walk(0, 1, a), Due.UNKNOWN);
            BUSY.unchanged("walk(0, " + a + ", " + a + ")", x -> x.walk(0, a, a), Due.UNKNOWN);
            BUSY.unchanged("way(0, " + a + ", 1, 0)", x -> x.way(0, a, 1, 0), Due.UNKNOWN);
            BUSY.unchanged("way(0, 1, " + a + ", 1)", x -> x.way(0, 1, a, 1), Due.UNKNOWN);
            BUSY.unchanged("way(-1, " + a + ", 1, 2)", x -> x.way(-1, a, 1, 2), Due.UNKNOWN);
            BUSY.unchanged("way(-1, 1, " + a + ", 0)", x -> x.way(-1, 1, a, 0), Due.UNKNOWN);
            BUSY.unchanged("cutOff(" + a + ")", x -> x.cutOff(a), Due.UNKNOWN);
            BUSY.unchanged("journey(" + a + ", 1)", x -> x.journey(a, 1), Due.UNKNOWN);
            BUSY.unchanged("journey(1, " + a + ")", x -> x.journey(1, a), Due.UNKNOWN);
        }
    }

    /** "one twice, where two are asked" */
    private static void onePlaceTwice() {
        for (int place = 0; place < 5; place++) {
            int a = place;
            BUSY.unchanged("walk(3, " + a + ", " + a + ")", x -> x.walk(3, a, a), Due.UNKNOWN);
            BUSY.unchanged("way(3, " + a + ", " + a + ", 0)", x -> x.way(3, a, a, 0), Due.UNKNOWN);
            BUSY.unchanged("way(-1, " + a + ", " + a + ", 2)", x -> x.way(-1, a, a, 2), Due.UNKNOWN);
            BUSY.unchanged("journey(" + a + ", " + a + ")", x -> x.journey(a, a), Due.UNKNOWN);
        }
    }

    private static void unknownLines() {
        for (int l : States.outside(0, 5)) {
            BUSY.unchanged("line(" + l + ", 0)", x -> x.line(l, 0), Due.UNKNOWN);
            BUSY.unchanged("line(" + l + ", 4)", x -> x.line(l, 4), Due.UNKNOWN);
            BUSY.unchanged("draw(0, " + l + ", true)", x -> x.draw(0, l, true), Due.UNKNOWN);
            BUSY.unchanged("draw(0, " + l + ", false)", x -> x.draw(0, l, false), Due.UNKNOWN);
            BUSY.unchanged("move(" + l + ", true)", x -> x.move(l, true), Due.UNKNOWN);
            BUSY.unchanged("move(" + l + ", false)", x -> x.move(l, false), Due.UNKNOWN);
        }
    }

    private static void unknownMaps() {
        for (int m : States.outside(0, 4)) {
            BUSY.unchanged("map(" + m + ", 0)", x -> x.map(m, 0), Due.UNKNOWN);
            BUSY.unchanged("map(" + m + ", 6)", x -> x.map(m, 6), Due.UNKNOWN);
            BUSY.unchanged("draw(" + m + ", 0, true)", x -> x.draw(m, 0, true), Due.UNKNOWN);
            BUSY.unchanged("copy(" + m + ", 1)", x -> x.copy(m, 1), Due.UNKNOWN);
            BUSY.unchanged("copy(1, " + m + ")", x -> x.copy(1, m), Due.UNKNOWN);
            BUSY.unchanged("assess(" + m + ")", x -> x.assess(m), Due.UNKNOWN);
            BUSY.unchanged("inspect(1, " + m + ")", x -> x.inspect(1, m), Due.UNKNOWN);
            BUSY.unchanged("walk(" + m + ", 0, 1)", x -> x.walk(m, 0, 1), Due.UNKNOWN);
            BUSY.unchanged("finds(1, " + m + ")", x -> x.finds(1, m), Due.UNKNOWN);
            BUSY.unchanged("unlike(" + m + ", 1)", x -> x.unlike(m, 1), Due.UNKNOWN);
            BUSY.unchanged("unlike(1, " + m + ")", x -> x.unlike(1, m), Due.UNKNOWN);
            BUSY.unchanged("write(" + m + ", 1)", x -> x.write(m, 1), Due.UNKNOWN);
        }
        for (int m : States.outsideButNone(4)) {
            BUSY.unchanged("way(" + m + ", 0, 1, 0)", x -> x.way(m, 0, 1, 0), Due.UNKNOWN);
        }
    }

    private static void oneMapTwice() {
        for (int map = 0; map < 5; map++) {
            int m = map;
            BUSY.unchanged("copy(" + m + ", " + m + ")", x -> x.copy(m, m), Due.UNKNOWN);
            BUSY.unchanged("unlike(" + m + ", " + m + ")", x -> x.unlike(m, m), Due.UNKNOWN);
        }
    }

    private static void unknownInspectors() {
        for (int i : States.outside(0, 1)) {
            BUSY.unchanged("inspect(" + i + ", 0)", x -> x.inspect(i, 0), Due.UNKNOWN);
            BUSY.unchanged("finds(" + i + ", 0)", x -> x.finds(i, 0), Due.UNKNOWN);
        }
    }

    /** Images are 0 and 1 alone, and -1, 32 are none by their bits either. */
    private static void unknownImages() {
        for (int i : States.outside(0, 1)) {
            BUSY.unchanged("keep(" + i + ")", x -> x.keep(i), Due.UNKNOWN);
            BUSY.unchanged("goBack(" + i + ")", x -> x.goBack(i), Due.UNKNOWN);
        }
    }

    private static void outsideWhat() {
        for (int w : States.outside(0, 14)) {
            BUSY.unchanged("told(" + w + ")", x -> x.told(w), Due.OUTSIDE);
        }
        for (int w : States.outside(0, 4)) {
            BUSY.unchanged("line(5, " + w + ")", x -> x.line(5, w), Due.OUTSIDE);
        }
        for (int w : States.outside(0, 6)) {
            BUSY.unchanged("map(4, " + w + ")", x -> x.map(4, w), Due.OUTSIDE);
        }
        for (int w : States.outside(0, 2)) {
            BUSY.unchanged("way(3, 0, 1, " + w + ")", x -> x.way(3, 0, 1, w), Due.OUTSIDE);
            BUSY.unchanged("way(4, 0, 1, " + w + ")", x -> x.way(4, 0, 1, w), Due.OUTSIDE);
            BUSY.unchanged("way(-1, 0, 1, " + w + ")", x -> x.way(-1, 0, 1, w), Due.OUTSIDE);
            BUSY.unchanged("lands(12, " + w + ")", x -> x.lands(12, w), Due.OUTSIDE);
            BUSY.unchanged("atRandom(0, " + w + ")", x -> x.atRandom(0, w), Due.OUTSIDE);
        }
        for (int w : States.outside(0, 1)) {
            BUSY.unchanged("least(4, " + w + ")", x -> x.least(4, w), Due.OUTSIDE);
        }
    }

    private static void outsideOthers() {
        for (int n : States.outside(0, 255)) {
            BUSY.unchanged("feed(" + n + ")", x -> x.feed(n), Due.OUTSIDE);
        }
        for (int n : States.outside(1, 60)) {
            BUSY.unchanged("day(" + n + ")", x -> x.day(n), Due.OUTSIDE);
            BUSY.unchanged("drift(" + n + ")", x -> x.drift(n), Due.OUTSIDE);
        }
        for (int n : States.outside(0, 4)) {
            BUSY.unchanged("least(" + n + ", 0)", x -> x.least(n, 0), Due.OUTSIDE);
        }
        for (int n : States.outside(0, 12)) {
            BUSY.unchanged("lands(" + n + ", 0)", x -> x.lands(n, 0), Due.OUTSIDE);
            BUSY.unchanged("atRandom(" + n + ", 0)", x -> x.atRandom(n, 0), Due.OUTSIDE);
            BUSY.unchanged("atRandom(" + n + ", 1)", x -> x.atRandom(n, 1), Due.OUTSIDE);
        }
        for (int n : States.outside(0, 60)) {
            BUSY.unchanged("quiet(" + n + ", 100)", x -> x.quiet(n, 100), Due.OUTSIDE);
        }
        for (int n : States.outside(0, 100)) {
            BUSY.unchanged("quiet(0, " + n + ")", x -> x.quiet(0, n), Due.OUTSIDE);
        }
        for (int n : States.outside(0, 99999)) {
            BUSY.unchanged("write(0, " + n + ")", x -> x.write(0, n), Due.OUTSIDE);
        }
        for (int n : States.outside(0, Integer.MAX_VALUE)) {
            if (n < 0) {
                BUSY.unchanged("seed(" + n + ")", x -> x.seed(n), Due.OUTSIDE);
            }
        }
    }

    private static void notNow() {
        BARE.unchanged("day(1)", x -> x.day(1), Due.NOT);
        BARE.unchanged("day(60)", x -> x.day(60), Due.NOT);
        BARE.unchanged("drift(1)", x -> x.drift(1), Due.NOT);
        BARE.unchanged("drift(60)", x -> x.drift(60), Due.NOT);
        BARE.unchanged("undo()", x -> x.undo(), Due.NOT);
        BARE.unchanged("goBack(0)", x -> x.goBack(0), Due.NOT);
        NOTHING_DONE.unchanged("undo()", x -> x.undo(), Due.NOT);
        NOTHING_DONE.unchanged("goBack(0)", x -> x.goBack(0), Due.NOT);
        BUSY.unchanged("goBack(1)", x -> x.goBack(1), Due.NOT);
        BUSY.unchanged("walk(4, 0, 1)", x -> x.walk(4, 0, 1), Due.NOT);
        BUSY.unchanged("walk(0, 4, 0)", x -> x.walk(0, 4, 0), Due.NOT);
        NOTHING_DONE.unchanged("walk(0, 0, 2)", x -> x.walk(0, 0, 2), Due.NOT);
    }

    private static void full() {
        for (int letter : new int[] {0, ' ', 'i', 'x', 255}) {
            FULL_TEXT.unchanged("feed(" + letter + ")", x -> x.feed(letter), Due.FULL);
        }
        FULL_BOOK.unchanged("journey(0, 1)", x -> x.journey(0, 1), Due.FULL);
        FULL_BOOK.unchanged("journey(2, 0)", x -> x.journey(2, 0), Due.FULL);
        FULL_BOOK.unchanged("write(0, 0)", x -> x.write(0, 0), Due.FULL);
        FULL_BOOK.unchanged("write(1, 99999)", x -> x.write(1, 99999), Due.FULL);
        for (int n : new int[] {1, 2, 60}) {
            FULL_DAYS.unchanged("day(" + n + ")", x -> x.day(n), Due.FULL);
            FULL_DAYS.unchanged("drift(" + n + ")", x -> x.drift(n), Due.FULL);
        }
    }

    /** "of several the first in this order: UNKNOWN .." */
    private static void unknownComesFirst() {
        BUSY.unchanged("line(6, 5)", x -> x.line(6, 5), Due.UNKNOWN);
        BUSY.unchanged("line(-1, -1)", x -> x.line(-1, -1), Due.UNKNOWN);
        BUSY.unchanged("map(5, 7)", x -> x.map(5, 7), Due.UNKNOWN);
        BUSY.unchanged("map(-1, -1)", x -> x.map(-1, -1), Due.UNKNOWN);
        BUSY.unchanged("way(5, 0, 1, 3)", x -> x.way(5, 0, 1, 3), Due.UNKNOWN);
        BUSY.unchanged("way(0, 5, 1, 3)", x -> x.way(0, 5, 1, 3), Due.UNKNOWN);
        BUSY.unchanged("way(0, 0, 5, -1)", x -> x.way(0, 0, 5, -1), Due.UNKNOWN);
        BUSY.unchanged("way(-1, 2, 2, 3)", x -> x.way(-1, 2, 2, 3), Due.UNKNOWN);
        BUSY.unchanged("write(5, -1)", x -> x.write(5, -1), Due.UNKNOWN);
        BUSY.unchanged("write(-1, 100000)", x -> x.write(-1, 100000), Due.UNKNOWN);
        // by map 4 there is no way
        BUSY.unchanged("walk(4, 0, 5)", x -> x.walk(4, 0, 5), Due.UNKNOWN);
        BUSY.unchanged("walk(4, 1, 1)", x -> x.walk(4, 1, 1), Due.UNKNOWN);
        BARE.unchanged("goBack(2)", x -> x.goBack(2), Due.UNKNOWN);
        BARE.unchanged("goBack(-1)", x -> x.goBack(-1), Due.UNKNOWN);
        FULL_BOOK.unchanged("journey(0, 3)", x -> x.journey(0, 3), Due.UNKNOWN);
        FULL_BOOK.unchanged("journey(1, 1)", x -> x.journey(1, 1), Due.UNKNOWN);
        FULL_BOOK.unchanged("write(2, 0)", x -> x.write(2, 0), Due.UNKNOWN);
        FULL_BOOK.unchanged("write(2, -1)", x -> x.write(2, -1), Due.UNKNOWN);
    }

    private static void outsideComesAheadOfNotAndFull() {
        BARE.unchanged("day(0)", x -> x.day(0), Due.OUTSIDE);
        BARE.unchanged("day(61)", x -> x.day(61), Due.OUTSIDE);
        BARE.unchanged("drift(0)", x -> x.drift(0), Due.OUTSIDE);
        BARE.unchanged("drift(61)", x -> x.drift(61), Due.OUTSIDE);
        FULL_DAYS.unchanged("day(0)", x -> x.day(0), Due.OUTSIDE);
        FULL_DAYS.unchanged("day(61)", x -> x.day(61), Due.OUTSIDE);
        FULL_DAYS.unchanged("drift(0)", x -> x.drift(0), Due.OUTSIDE);
        FULL_DAYS.unchanged("drift(61)", x -> x.drift(61), Due.OUTSIDE);
        FULL_TEXT.unchanged("feed(-1)", x -> x.feed(-1), Due.OUTSIDE);
        FULL_TEXT.unchanged("feed(256)", x -> x.feed(256), Due.OUTSIDE);
        FULL_BOOK.unchanged("write(0, -1)", x -> x.write(0, -1), Due.OUTSIDE);
        FULL_BOOK.unchanged("write(1, 100000)", x -> x.write(1, 100000), Due.OUTSIDE);
    }

    /** Nothing that a survey tells is there, so each number of such is UNKNOWN, 0 too. */
    private static void withoutSurveyAllIsUnknown() {
        BARE.unchanged("line(0, 0)", x -> x.line(0, 0), Due.UNKNOWN);
        BARE.unchanged("map(0, 0)", x -> x.map(0, 0), Due.UNKNOWN);
        BARE.unchanged("draw(0, 0, true)", x -> x.draw(0, 0, true), Due.UNKNOWN);
        BARE.unchanged("move(0, true)", x -> x.move(0, true), Due.UNKNOWN);
        BARE.unchanged("copy(0, 1)", x -> x.copy(0, 1), Due.UNKNOWN);
        BARE.unchanged("assess(0)", x -> x.assess(0), Due.UNKNOWN);
        BARE.unchanged("inspect(0, 0)", x -> x.inspect(0, 0), Due.UNKNOWN);
        BARE.unchanged("walk(0, 0, 1)", x -> x.walk(0, 0, 1), Due.UNKNOWN);
        BARE.unchanged("way(-1, 0, 1, 0)", x -> x.way(-1, 0, 1, 0), Due.UNKNOWN);
        BARE.unchanged("finds(0, 0)", x -> x.finds(0, 0), Due.UNKNOWN);
        BARE.unchanged("unlike(0, 1)", x -> x.unlike(0, 1), Due.UNKNOWN);
        BARE.unchanged("cutOff(0)", x -> x.cutOff(0), Due.UNKNOWN);
        BARE.unchanged("journey(0, 1)", x -> x.journey(0, 1), Due.UNKNOWN);
        BARE.unchanged("write(0, 0)", x -> x.write(0, 0), Due.UNKNOWN);
    }
}
