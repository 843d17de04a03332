import java.util.ArrayList;
import java.util.List;
import java.util.Random;

/** Runs of calls by a fixed seed: the class and the plain model answer alike. */
public final class ModelTest {
    private static final int RUNS = 2000;
    private static final int TEXTS = 40000;
    private static final int CALLS = 512;
    private static final Due DUE = new Due();

    private final Random random;
    private final MapDuty x = new MapDuty();
    private final PlainModel y = new PlainModel();
    private final String name;
    private int calls;

    private ModelTest(long seed) {
        random = new Random(seed);
        name = "run " + seed + ": ";
    }

    public static void main(String[] args) {
        for (int run = 0; run < RUNS; run++) {
            new ModelTest(run).longRun();
        }
        ModelTest texts = new ModelTest(RUNS);
        for (int n = 0; n < TEXTS; n++) {
            texts.readOne();
        }
        DUE.end();
    }

    private void due(String call, int got, int want) {
        calls++;
        DUE.is(name + call, got, want);
    }

    private void longRun() {
        if (random.nextInt(20) > 0) {
            take(survey());
        }
        boolean few = random.nextBoolean();
        while (calls < CALLS) {
            if (random.nextInt(150) == 0 && calls < CALLS - 250) {
                take(random.nextInt(3) == 0 ? spoilt() : survey());
            }
            if (random.nextInt(3) > 0) {
                act(few);
            } else if (random.nextBoolean()) {
                look();
            } else {
                note();
            }
        }
    }

    private void readOne() {
        take(random.nextInt(8) == 0 ? survey() : spoilt());
        due("told(0)", x.told(0), y.told(0));
        due("told(2)", x.told(2), y.told(2));
        due("told(3)", x.told(3), y.told(3));
        due("told(6)", x.told(6), y.told(6));
    }

    private void take(String text) {
        for (int i = 0; i < text.length(); i++) {
            due("feed", x.feed(text.charAt(i)), y.feed(text.charAt(i)));
        }
        due("survey() of '" + text + "'", x.survey(), y.survey());
        due("fault() of '" + text + "'", x.fault(), y.fault());
    }

    /** A number from 0 to most less 1, and now and then one just beside it or far from it. */
    private int near(int most) {
        int kind = random.nextInt(60);
        if (kind == 0) {
            return -1;
        }
        if (kind == 1) {
            return most;
        }
        if (kind == 2) {
            return random.nextInt();
        }
        return random.nextInt(Math.max(1, most));
    }

    private int place() {
        return near(y.told(0));
    }

    private int lineNumber() {
        return near(y.told(1));
    }

    private int mapNumber() {
        return near(y.told(2));
    }

    private int inspector() {
        return near(y.told(3));
    }

    private void act(boolean few) {
        int m = mapNumber();
        int l = lineNumber();
        int i = inspector();
        int a = place();
        int b = place();
        boolean yes = random.nextBoolean();
        int n = few ? 1 + near(3) : near(62);
        switch (random.nextInt(few ? 10 : 12)) {
            case 0 -> due("draw(" + m + ", " + l + ", " + yes + ")", x.draw(m, l, yes), y.draw(m, l, yes));
            case 1 -> due("move(" + l + ", " + yes + ")", x.move(l, yes), y.move(l, yes));
            case 2 -> due("copy(" + m + ", " + i + ")", x.copy(m, i), y.copy(m, i));
            case 3 -> due("assess(" + m + ")", x.assess(m), y.assess(m));
            case 4 -> due("inspect(" + i + ", " + m + ")", x.inspect(i, m), y.inspect(i, m));
            case 5 -> due("walk(" + m + ", " + a + ", " + b + ")", x.walk(m, a, b), y.walk(m, a, b));
            case 6, 10 -> due("day(" + n + ")", x.day(n), y.day(n));
            case 7, 11 -> due("drift(" + n + ")", x.drift(n), y.drift(n));
            default -> {
                for (int k = random.nextInt(random.nextInt(20) == 0 ? 18 : 2); k >= 0; k--) {
                    due("undo()", x.undo(), y.undo());
                }
            }
        }
    }

    private void look() {
        int m = mapNumber();
        int what = near(3);
        switch (random.nextInt(11)) {
            case 0, 1 -> {
                int w = near(15);
                due("told(" + w + ")", x.told(w), y.told(w));
            }
            case 2 -> {
                int l = lineNumber();
                int w = near(5);
                due("line(" + l + ", " + w + ")", x.line(l, w), y.line(l, w));
            }
            case 3, 4 -> {
                int w = near(7);
                due("map(" + m + ", " + w + ")", x.map(m, w), y.map(m, w));
            }
            case 5 -> {
                int by = random.nextInt(3) == 0 ? -1 : m;
                int a = place();
                int b = place();
                due("way(" + by + ", " + a + ", " + b + ", " + what + ")", x.way(by, a, b, what), y.way(by, a, b, what));
            }
            case 6 -> {
                int kind = near(5);
                int w = near(2);
                due("least(" + kind + ", " + w + ")", x.least(kind, w), y.least(kind, w));
            }
            case 7 -> {
                int e = near(random.nextBoolean() ? 7 : 13);
                due("lands(" + e + ", " + what + ")", x.lands(e, what), y.lands(e, what));
            }
            case 8 -> {
                int i = inspector();
                due("finds(" + i + ", " + m + ")", x.finds(i, m), y.finds(i, m));
            }
            case 9 -> {
                int q = mapNumber();
                int a = place();
                due("unlike(" + m + ", " + q + ")", x.unlike(m, q), y.unlike(m, q));
                due("cutOff(" + a + ")", x.cutOff(a), y.cutOff(a));
            }
            default -> {
                int k = near(13);
                int q = near(101);
                int n = near(61);
                due("atRandom(" + k + ", " + what + ")", x.atRandom(k, what), y.atRandom(k, what));
                due("quiet(" + n + ", " + q + ")", x.quiet(n, q), y.quiet(n, q));
            }
        }
    }

    private void note() {
        int image = near(2);
        switch (random.nextInt(8)) {
            case 0 -> {
                int a = place();
                int b = place();
                due("journey(" + a + ", " + b + ")", x.journey(a, b), y.journey(a, b));
            }
            case 1, 2 -> {
                int m = mapNumber();
                int owes = random.nextInt(3) == 0 ? near(100000) : y.map(m, 3);
                due("write(" + m + ", " + owes + ")", x.write(m, owes), y.write(m, owes));
            }
            case 3 -> {
                if (random.nextInt(5) == 0) {
                    due("tear()", x.tear(), y.tear());
                }
            }
            case 4, 5 -> due("judge()", x.judge(), y.judge());
            case 6 -> {
                int v = random.nextInt(10) == 0 ? random.nextInt() : random.nextInt(1 << 30);
                due("seed(" + v + ")", x.seed(v), y.seed(v));
            }
            default -> {
                if (random.nextInt(3) == 0) {
                    due("keep(" + image + ")", x.keep(image), y.keep(image));
                } else if (random.nextInt(3) == 0) {
                    due("goBack(" + image + ")", x.goBack(image), y.goBack(image));
                }
            }
        }
    }

    /** A text without a fault, mostly, of 240 letters at most. */
    private String survey() {
        int places = 2 + random.nextInt(7);
        StringBuilder t = new StringBuilder("n" + places + ";");
        List<String> pairs = new ArrayList<>();
        int lines = 0;
        boolean dear = random.nextBoolean();
        for (int n = random.nextInt(14); n > 0 && lines < 12; n--) {
            int a = random.nextInt(places);
            int b = random.nextInt(places);
            if (a != b && !pairs.contains(a + " " + b)) {
                pairs.add(a + " " + b);
                pairs.add(b + " " + a);
                int duty = dear ? random.nextInt(51) : random.nextInt(4);
                t.append("l" + a + " " + b + " " + (random.nextInt(3) > 0 ? 1 : 0) + " " + duty + ";");
                lines++;
            }
        }
        int all = (1 << lines) - 1;
        for (int n = random.nextInt(6); n > 0; n--) {
            int shows = (random.nextInt(4096) | random.nextInt(4096)) & all;
            t.append("m" + random.nextInt(5) + " " + (shows & 63) + " " + (shows >> 6) + ";");
        }
        for (int n = random.nextInt(5); n > 0; n--) {
            t.append("i" + (1 + random.nextInt(random.nextBoolean() ? 4 : 12)) + ";");
        }
        return t.length() > 240 ? t.substring(0, 240) : t.toString();
    }

    private String spoilt() {
        StringBuilder t = new StringBuilder(survey());
        String letters = "nlmi;  0123456789x";
        for (int n = 1 + random.nextInt(3); n > 0; n--) {
            int at = random.nextInt(t.length());
            char c = letters.charAt(random.nextInt(letters.length()));
            switch (random.nextInt(5)) {
                case 0 -> t.deleteCharAt(at);
                case 1 -> t.insert(at, c);
                case 2 -> t.setCharAt(at, c);
                case 3 -> t.insert(t.indexOf(";", at) + 1, clause());
                default -> t.setLength(random.nextInt(6) == 0 ? at : t.length());
            }
            if (t.length() == 0) {
                t.append(' ');
            }
        }
        return t.length() > 240 ? t.substring(0, 240) : t.toString();
    }

    private String clause() {
        return switch (random.nextInt(4)) {
            case 0 -> "n" + random.nextInt(10) + ";";
            case 1 -> "l" + random.nextInt(9) + " " + random.nextInt(9) + " " + random.nextInt(2) + " " + random.nextInt(52) + ";";
            case 2 -> "m" + random.nextInt(6) + " " + random.nextInt(66) + " " + random.nextInt(66) + ";";
            default -> "i" + random.nextInt(14) + ";";
        };
    }
}
