import java.util.Arrays;
import java.util.stream.IntStream;

/** Objects in states in which calls are refused, and the numbers by which they are. */
final class States {
    /** A text without a fault that no survey() has read yet. */
    private static final String WAITING = "n3;l0 1 1 7;m2 1 0;i3;";
    static final String SMALL = "n3;l0 1 1 3;l1 2 0 1;m0 1 0;m1 2 0;i1;";

    private States() {
    }

    /** Just beside the bounds, far from them, and those that come within them if only some of their bits are looked at. */
    static int[] outside(int least, int most) {
        int[] some = {least - 1, least - 2, most + 1, most + 2, 31, 32, 33, 63, 64, 127, 128, 255, 256, 257, -31, -32, -33,
            65536, 65537, -65536, 1 << 30, Integer.MAX_VALUE, Integer.MAX_VALUE - 1, Integer.MIN_VALUE, Integer.MIN_VALUE + 1};
        return IntStream.of(some).filter(n -> n < least || n > most).distinct().toArray();
    }

    /** But for NONE, which stands for the land where a map is asked. */
    static int[] outsideButNone(int most) {
        return Arrays.stream(outside(0, most)).filter(n -> n != Due.NONE).toArray();
    }

    /**
     * Places 0 to 4, lines 0 to 5, maps 0 to 4, inspectors 0 and 1; image 0 is kept, image 1 is not; the latest survey()
     * had a fault; the text is empty.
     */
    static MapDuty busyWithoutText() {
        MapDuty x = Due.surveyed(Due.FIVE);
        x.seed(77);
        x.day(2);
        x.keep(0);
        x.assess(1);
        x.walk(0, 2, 3);
        x.move(2, true);
        x.draw(0, 0, false);
        x.copy(2, 3);
        x.inspect(1, 3);
        x.drift(3);
        x.journey(0, 2);
        x.journey(1, 3);
        x.write(0, 5);
        x.write(1, 9);
        Due.feed(x, "n2;x");
        x.survey();
        return x;
    }

    static MapDuty busy() {
        MapDuty x = busyWithoutText();
        Due.feed(x, WAITING);
        return x;
    }

    /** No survey; a seed and a text. */
    static MapDuty bare() {
        MapDuty x = new MapDuty();
        x.seed(5);
        Due.feed(x, WAITING);
        return x;
    }

    /** The text has 240 letters, of which the last ones are a clause. */
    static MapDuty fullText() {
        MapDuty x = Due.surveyed(SMALL);
        x.day(1);
        Due.feed(x, WAITING);
        while (x.told(4) < 236) {
            x.feed(' ');
        }
        Due.feed(x, "i12;");
        return x;
    }

    /** Four journeys, fifteen entries of the book, sixteen things that can be undone. */
    static MapDuty fullBook() {
        MapDuty x = Due.surveyed(SMALL);
        for (int n = 0; n < 18; n++) {
            x.move(n % 2, n % 3 == 0);
        }
        for (int n = 0; n < 4; n++) {
            x.journey(n % 2, 2);
        }
        for (int n = 0; n < 15; n++) {
            x.write(n % 2, n < 9 ? 0 : n);
        }
        return x;
    }

    /** 9001 days. */
    static MapDuty fullDays() {
        MapDuty x = Due.surveyed(SMALL);
        x.seed(3);
        for (int n = 0; n < 150; n++) {
            x.day(60);
        }
        x.drift(1);
        return x;
    }

    /** There is nothing to undo, and image 1 is kept. */
    static MapDuty nothingDone() {
        MapDuty x = Due.surveyed(SMALL);
        x.day(4);
        x.seed(6);
        x.keep(1);
        return x;
    }
}
