/** All that an object tells of itself, down to what it can undo, its images and its text; the object is used up by it. */
final class Witness {
    private final MapDuty x;
    private final StringBuilder seen = new StringBuilder();

    private Witness(MapDuty x) {
        this.x = x;
    }

    static String of(MapDuty x) {
        return "fault " + x.fault() + withoutFault(x);
    }

    /** For what survey() leaves as it was: all but the letter of its fault. */
    static String withoutFault(MapDuty x) {
        Witness w = new Witness(x);
        w.surveyAsTold();
        w.standing();
        w.tried();
        w.past();
        w.images();
        w.text();
        return w.seen.toString();
    }

    private void put(String name, int answer) {
        seen.append(' ').append(name).append(' ').append(answer);
    }

    private void surveyAsTold() {
        for (int what : new int[] {0, 1, 2, 3, 4, 12, 13, 14}) {
            put("told" + what, x.told(what));
        }
        for (int l = 0; l < x.told(1); l++) {
            put("a", x.line(l, 0));
            put("b", x.line(l, 1));
            put("d", x.line(l, 3));
        }
        for (int m = 0; m < x.told(2); m++) {
            put("kind", x.map(m, 0));
        }
    }

    /** All of section 2, and the seed, which is put back. */
    private void standing() {
        for (int what = 5; what <= 8; what++) {
            put("told" + what, x.told(what));
        }
        for (int m = 0; m < x.told(2); m++) {
            put("shows", x.map(m, 1));
            put("owes", x.map(m, 3));
        }
        int seed = x.seed(0);
        x.seed(seed);
        put("seed", seed);
    }

    private void tried() {
        for (int i = 0; i < x.told(3); i++) {
            for (int m = 0; m < x.told(2); m++) {
                put("finds", x.finds(i, m));
            }
        }
        for (int kind = 0; kind <= 4; kind++) {
            put("least", x.least(kind, 1));
        }
        put("judge", x.judge());
    }

    private void past() {
        for (int n = x.told(14); n > 0; n--) {
            put("undo", x.undo());
            standing();
        }
    }

    private void images() {
        for (int i = 0; i < 2; i++) {
            put("goBack" + i, x.goBack(i));
            standing();
        }
    }

    private void text() {
        put("survey", x.survey());
        put("its fault", x.fault());
        surveyAsTold();
        standing();
    }
}
