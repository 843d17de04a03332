import java.util.ArrayDeque;
import java.util.ArrayList;
import java.util.Collections;
import java.util.Comparator;
import java.util.Deque;
import java.util.HashMap;
import java.util.List;
import java.util.Map;
import java.util.TreeSet;
import java.util.function.Supplier;

/** The document once more, by lists, sets and enumeration of all there is; slow, and written apart from the class. */
final class PlainModel {
    private static final int NONE = -1, UNKNOWN = -1000000001, OUTSIDE = -1000000002, NOT = -1000000003, FULL = -1000000004;

    private record Line(int a, int b, int duty) {
        boolean at(int p) {
            return a == p || b == p;
        }

        int other(int p) {
            return a == p ? b : a;
        }
    }

    private record Told(int places, List<Line> lines, TreeSet<Integer> land, List<Integer> kinds,
                        List<TreeSet<Integer>> shows, List<Integer> chains) {
        static Told nothing(int places) {
            return new Told(places, new ArrayList<>(), new TreeSet<>(), new ArrayList<>(), new ArrayList<>(),
                new ArrayList<>());
        }
    }

    /** Section 2 as it is. */
    private static final class State {
        TreeSet<Integer> land = new TreeSet<>();
        List<TreeSet<Integer>> shows = new ArrayList<>();
        List<Integer> owes = new ArrayList<>();
        int days;
        int paid;
        int fell;

        State twin() {
            State t = new State();
            t.land = new TreeSet<>(land);
            for (TreeSet<Integer> s : shows) {
                t.shows.add(new TreeSet<>(s));
            }
            t.owes = new ArrayList<>(owes);
            t.days = days;
            t.paid = paid;
            t.fell = fell;
            return t;
        }
    }

    private record Image(State state, long seed) { }

    /** A fault is found by unwinding the reading. */
    private static final class Fault extends RuntimeException {
        private static final long serialVersionUID = 1L;
        final int number;
        final int at;

        Fault(int number, int at) {
            this.number = number;
            this.at = at;
        }
    }

    private StringBuilder text = new StringBuilder();
    private int faultAt = NONE;
    private Told told = Told.nothing(0);
    private State s = new State();
    private final Deque<State> past = new ArrayDeque<>();
    private final Map<Integer, Image> images = new HashMap<>();
    private final List<int[]> journeys = new ArrayList<>();
    private final List<int[]> book = new ArrayList<>();
    private long seed;

    int feed(int letter) {
        if (letter < 0 || letter > 255) {
            return OUTSIDE;
        }
        if (text.length() == 240) {
            return FULL;
        }
        text.append((char) letter);
        return text.length();
    }

    // ---- reading: first into pieces, each with its place, then clause by clause

    private record Piece(String what, int at) {
        boolean isNumber() {
            return Character.isDigit(what.charAt(0));
        }
    }

    private static List<Piece> pieces(String t) {
        List<Piece> all = new ArrayList<>();
        StringBuilder figures = new StringBuilder();
        for (int i = 0; i <= t.length(); i++) {
            char c = i < t.length() ? t.charAt(i) : ' ';
            if (c >= '0' && c <= '9') {
                figures.append(c);
                continue;
            }
            if (figures.length() > 0) {
                all.add(new Piece(figures.toString(), i - figures.length()));
                figures.setLength(0);
            }
            if (c != ' ') {
                all.add(new Piece("" + c, i));
            }
        }
        return all;
    }

    private static int numberOf(List<Piece> rest, int end, int least, int most) {
        if (rest.isEmpty()) {
            throw new Fault(1, end);
        }
        Piece p = rest.get(0);
        if (!p.isNumber()) {
            throw new Fault(1, p.at());
        }
        if (p.what().length() > 3 || Integer.parseInt(p.what()) < least || Integer.parseInt(p.what()) > most) {
            throw new Fault(2, p.at());
        }
        rest.remove(0);
        return Integer.parseInt(p.what());
    }

    private static void close(List<Piece> rest, int end) {
        if (rest.isEmpty()) {
            throw new Fault(1, end);
        }
        if (!rest.get(0).what().equals(";")) {
            throw new Fault(1, rest.get(0).at());
        }
        rest.remove(0);
    }

    private static Told read(String t) {
        List<Piece> rest = new ArrayList<>(pieces(t));
        int end = t.length();
        Told r = Told.nothing(0);
        while (!rest.isEmpty()) {
            Piece word = rest.remove(0);
            boolean first = r.places() == 0;
            switch (word.what()) {
                case "n" -> {
                    if (!first) {
                        throw new Fault(3, word.at());
                    }
                    r = Told.nothing(numberOf(rest, end, 2, 8));
                }
                case "l" -> {
                    if (first || !r.kinds().isEmpty()) {
                        throw new Fault(1, word.at());
                    }
                    if (r.lines().size() == 12) {
                        throw new Fault(3, word.at());
                    }
                    readLine(r, rest, end);
                }
                case "m" -> {
                    if (first) {
                        throw new Fault(1, word.at());
                    }
                    if (r.kinds().size() == 5) {
                        throw new Fault(3, word.at());
                    }
                    r.kinds().add(numberOf(rest, end, 0, 4));
                    TreeSet<Integer> shown = new TreeSet<>();
                    readBits(r, rest, end, 0, shown);
                    readBits(r, rest, end, 6, shown);
                    r.shows().add(shown);
                }
                case "i" -> {
                    if (first) {
                        throw new Fault(1, word.at());
                    }
                    if (r.chains().size() == 4) {
                        throw new Fault(3, word.at());
                    }
                    r.chains().add(numberOf(rest, end, 1, 12));
                }
                default -> throw new Fault(1, word.at());
            }
            close(rest, end);
        }
        return r;
    }

    private static void readLine(Told r, List<Piece> rest, int end) {
        int a = numberOf(rest, end, 0, r.places() - 1);
        int at = rest.isEmpty() ? end : rest.get(0).at();
        int b = numberOf(rest, end, 0, r.places() - 1);
        if (a == b || r.lines().stream().anyMatch(l -> l.at(a) && l.at(b))) {
            throw new Fault(4, at);
        }
        if (numberOf(rest, end, 0, 1) == 1) {
            r.land().add(r.lines().size());
        }
        r.lines().add(new Line(a, b, numberOf(rest, end, 0, 50)));
    }

    private static void readBits(Told r, List<Piece> rest, int end, int from, TreeSet<Integer> shown) {
        int at = rest.isEmpty() ? end : rest.get(0).at();
        int value = numberOf(rest, end, 0, 63);
        for (int k = 0; k < 6; k++) {
            if ((value & 1 << k) != 0) {
                if (from + k >= r.lines().size()) {
                    throw new Fault(2, at);
                }
                shown.add(from + k);
            }
        }
    }

    int survey() {
        String t = text.toString();
        text = new StringBuilder();
        faultAt = NONE;
        try {
            told = read(t);
        } catch (Fault f) {
            faultAt = f.at;
            return -10 - f.number;
        }
        s = new State();
        s.land = new TreeSet<>(told.land());
        for (TreeSet<Integer> shown : told.shows()) {
            s.shows.add(new TreeSet<>(shown));
            s.owes.add(0);
        }
        past.clear();
        images.clear();
        journeys.clear();
        book.clear();
        return told.lines().size();
    }

    int fault() {
        return faultAt;
    }

    // ---- helpers

    private boolean place(int p) {
        return p >= 0 && p < told.places();
    }

    private boolean lineThere(int l) {
        return l >= 0 && l < told.lines().size();
    }

    private boolean mapThere(int m) {
        return m >= 0 && m < told.kinds().size();
    }

    private boolean inspectorThere(int i) {
        return i >= 0 && i < told.chains().size();
    }

    private static int number(Iterable<Integer> set) {
        int n = 0;
        for (int k : set) {
            n |= 1 << k;
        }
        return n;
    }

    private static TreeSet<Integer> set(int number) {
        TreeSet<Integer> set = new TreeSet<>();
        for (int k = 0; k < 31; k++) {
            if ((number & 1 << k) != 0) {
                set.add(k);
            }
        }
        return set;
    }

    private int duty(int kind, TreeSet<Integer> shown) {
        int sum = 0;
        for (int l = 0; l < told.lines().size(); l++) {
            int d = told.lines().get(l).duty();
            boolean shows = shown.contains(l);
            boolean isTrue = s.land.contains(l);
            if (shows && isTrue) {
                sum += kind == 1 ? d + d : kind == 2 ? d / 2 : kind == 3 ? (d >= 1 ? 1 : 0) : d;
            }
            if (kind == 4 && !shows && !isTrue) {
                sum += d / 3;
            }
        }
        return sum;
    }

    private int duty(int m) {
        return duty(told.kinds().get(m), s.shows.get(m));
    }

    private TreeSet<Integer> right(int m) {
        TreeSet<Integer> r = new TreeSet<>();
        for (int l = 0; l < told.lines().size(); l++) {
            if (s.shows.get(m).contains(l) == s.land.contains(l)) {
                r.add(l);
            }
        }
        return r;
    }

    /** All ways without a place twice; the best of them by length, then line by line; null: none. */
    private List<Integer> wayBy(TreeSet<Integer> shown, int a, int b) {
        List<List<Integer>> all = new ArrayList<>();
        gather(shown, a, b, new ArrayList<>(), new TreeSet<>(Collections.singleton(a)), all);
        Comparator<List<Integer>> byLines = (x, y) -> {
            for (int i = 0; i < Math.min(x.size(), y.size()); i++) {
                int c = Integer.compare(x.get(i), y.get(i));
                if (c != 0) {
                    return c;
                }
            }
            return 0;
        };
        Comparator<List<Integer>> byLength = Comparator.comparingInt(List::size);
        return all.stream().min(byLength.thenComparing(byLines)).orElse(null);
    }

    private void gather(TreeSet<Integer> shown, int here, int b, List<Integer> gone, TreeSet<Integer> been,
                        List<List<Integer>> all) {
        if (here == b) {
            all.add(new ArrayList<>(gone));
            return;
        }
        for (int l : shown) {
            Line line = told.lines().get(l);
            if (line.at(here) && !been.contains(line.other(here))) {
                gone.add(l);
                been.add(line.other(here));
                gather(shown, line.other(here), b, gone, been, all);
                been.remove(line.other(here));
                gone.remove(gone.size() - 1);
            }
        }
    }

    private boolean joined(TreeSet<Integer> shown, int a, int b) {
        int[] group = new int[told.places()];
        for (int p = 0; p < group.length; p++) {
            group[p] = p;
        }
        for (int l : shown) {
            int from = group[told.lines().get(l).a()];
            int to = group[told.lines().get(l).b()];
            for (int p = 0; p < group.length; p++) {
                if (group[p] == from) {
                    group[p] = to;
                }
            }
        }
        return group[a] == group[b];
    }

    private int fallOn(List<Integer> way) {
        for (int n = 0; n < way.size(); n++) {
            if (!s.land.contains(way.get(n))) {
                return n;
            }
        }
        return NONE;
    }

    private int bridges() {
        TreeSet<Integer> r = new TreeSet<>();
        for (int l : s.land) {
            TreeSet<Integer> without = new TreeSet<>(s.land);
            without.remove(l);
            for (int a = 0; a < told.places(); a++) {
                for (int b = 0; b < told.places(); b++) {
                    if (joined(s.land, a, b) && !joined(without, a, b)) {
                        r.add(l);
                    }
                }
            }
        }
        return number(r);
    }

    int told(int what) {
        List<Integer> maps = new ArrayList<>();
        for (int m = 0; m < told.kinds().size(); m++) {
            maps.add(m);
        }
        return switch (what) {
            case 0 -> told.places();
            case 1 -> told.lines().size();
            case 2 -> maps.size();
            case 3 -> told.chains().size();
            case 4 -> text.length();
            case 5 -> s.days;
            case 6 -> number(s.land);
            case 7 -> s.paid;
            case 8 -> s.fell;
            case 9 -> bridges();
            case 10 -> maps.stream().min(Comparator.comparingInt((Integer m) -> duty(m)).thenComparing(m -> m)).orElse(NONE);
            case 11 -> maps.stream().min(Comparator.comparingInt((Integer m) -> -right(m).size()).thenComparing(m -> m)).orElse(NONE);
            case 12 -> journeys.size();
            case 13 -> book.size();
            case 14 -> past.size();
            default -> OUTSIDE;
        };
    }

    int line(int l, int what) {
        if (!lineThere(l)) {
            return UNKNOWN;
        }
        Line line = told.lines().get(l);
        TreeSet<Integer> by = new TreeSet<>();
        for (int m = 0; m < s.shows.size(); m++) {
            if (s.shows.get(m).contains(l)) {
                by.add(m);
            }
        }
        return switch (what) {
            case 0 -> line.a();
            case 1 -> line.b();
            case 2 -> s.land.contains(l) ? 1 : 0;
            case 3 -> line.duty();
            case 4 -> number(by);
            default -> OUTSIDE;
        };
    }

    int map(int m, int what) {
        if (!mapThere(m)) {
            return UNKNOWN;
        }
        return switch (what) {
            case 0 -> told.kinds().get(m);
            case 1 -> number(s.shows.get(m));
            case 2 -> duty(m);
            case 3 -> s.owes.get(m);
            case 4 -> number(right(m));
            case 5 -> lost(m);
            case 6 -> price(m);
            default -> OUTSIDE;
        };
    }

    private int lost(int m) {
        int n = 0;
        for (int a = 0; a < told.places(); a++) {
            for (int b = a + 1; b < told.places(); b++) {
                if (joined(s.land, a, b) && !joined(s.shows.get(m), a, b)) {
                    n++;
                }
            }
        }
        return n;
    }

    private int price(int m) {
        int good = 0;
        int bad = 0;
        for (int a = 0; a < told.places(); a++) {
            for (int b = a + 1; b < told.places(); b++) {
                List<Integer> way = wayBy(s.shows.get(m), a, b);
                if (way != null && fallOn(way) == NONE) {
                    good++;
                } else if (way != null) {
                    bad++;
                }
            }
        }
        return Math.max(0, 3 * good - bad);
    }

    // ---- done

    private int done(Supplier<Integer> what) {
        past.addLast(s.twin());
        if (past.size() > 16) {
            past.removeFirst();
        }
        return what.get();
    }

    private static int flip(TreeSet<Integer> set, int k, boolean in) {
        int was = set.contains(k) ? 1 : 0;
        if (in) {
            set.add(k);
        } else {
            set.remove(k);
        }
        return was;
    }

    int draw(int m, int l, boolean shows) {
        if (!mapThere(m) || !lineThere(l)) {
            return UNKNOWN;
        }
        return done(() -> flip(s.shows.get(m), l, shows));
    }

    int move(int l, boolean isTrue) {
        if (!lineThere(l)) {
            return UNKNOWN;
        }
        return done(() -> flip(s.land, l, isTrue));
    }

    int copy(int m, int from) {
        if (!mapThere(m) || !mapThere(from) || m == from) {
            return UNKNOWN;
        }
        return done(() -> number(s.shows.set(m, new TreeSet<>(s.shows.get(from)))));
    }

    int assess(int m) {
        if (!mapThere(m)) {
            return UNKNOWN;
        }
        return done(() -> {
            int due = s.owes.set(m, 0) + duty(m);
            s.paid = Math.min(999999, s.paid + due);
            return due;
        });
    }

    int finds(int i, int m) {
        if (!mapThere(m) || !inspectorThere(i)) {
            return UNKNOWN;
        }
        List<Integer> shown = new ArrayList<>(s.shows.get(m));
        shown.sort(Comparator.comparingInt((Integer l) -> -told.lines().get(l).duty()).thenComparing(l -> l));
        return 10 * (int) shown.stream().limit(told.chains().get(i)).filter(l -> !s.land.contains(l)).count();
    }

    private int fine(int i, int m) {
        int fine = finds(i, m);
        s.owes.set(m, Math.min(99999, s.owes.get(m) + fine));
        return fine;
    }

    int inspect(int i, int m) {
        if (!mapThere(m) || !inspectorThere(i)) {
            return UNKNOWN;
        }
        return done(() -> fine(i, m));
    }

    int walk(int m, int a, int b) {
        if (!mapThere(m) || !place(a) || !place(b) || a == b) {
            return UNKNOWN;
        }
        List<Integer> way = wayBy(s.shows.get(m), a, b);
        if (way == null) {
            return NOT;
        }
        return done(() -> {
            boolean falls = fallOn(way) != NONE;
            s.fell += falls ? 1 : 0;
            return falls ? 0 : 1;
        });
    }

    private int refusal(int n) {
        return n < 1 || n > 60 ? OUTSIDE : told.places() == 0 ? NOT : s.days > 9000 ? FULL : 0;
    }

    private void aDay() {
        for (int m = 0; m < s.owes.size(); m++) {
            s.owes.set(m, Math.min(99999, s.owes.get(m) + duty(m)));
        }
        s.days++;
    }

    private int owed() {
        return s.owes.stream().mapToInt(x -> x).sum();
    }

    int day(int n) {
        if (refusal(n) != 0) {
            return refusal(n);
        }
        return done(() -> {
            for (int i = 0; i < n; i++) {
                aDay();
            }
            return owed();
        });
    }

    private int lot(int n) {
        seed = (seed * 1103515245L + 12345L) % (1L << 31);
        return (int) (seed / 65536 % n);
    }

    int drift(int n) {
        if (refusal(n) != 0) {
            return refusal(n);
        }
        return done(() -> {
            for (int i = 0; i < n; i++) {
                ahead();
                aDay();
            }
            return owed();
        });
    }

    private void ahead() {
        int lines = told.lines().size();
        int maps = told.kinds().size();
        int inspectors = told.chains().size();
        if (lines == 0) {
            return;
        }
        int on = lot(5);
        if (on == 0) {
            int l = lot(lines);
            flip(s.land, l, !s.land.contains(l));
        }
        if (on == 1 && maps > 0) {
            int m = lot(maps);
            int l = lot(lines);
            flip(s.shows.get(m), l, !s.shows.get(m).contains(l));
        }
        if (on == 2 && maps > 0 && inspectors > 0) {
            int i = lot(inspectors);
            fine(i, lot(maps));
        }
    }

    int undo() {
        if (past.isEmpty()) {
            return NOT;
        }
        s = past.removeLast();
        return past.size();
    }

    // ---- tried

    int way(int m, int a, int b, int what) {
        if (m != NONE && !mapThere(m) || !place(a) || !place(b) || a == b) {
            return UNKNOWN;
        }
        if (what < 0 || what > 2) {
            return OUTSIDE;
        }
        List<Integer> way = wayBy(m == NONE ? s.land : s.shows.get(m), a, b);
        return way == null ? NONE : what == 0 ? way.size() : what == 1 ? way.get(0) : fallOn(way);
    }

    int least(int kind, int what) {
        if (kind < 0 || kind > 4 || what < 0 || what > 1) {
            return OUTSIDE;
        }
        int best = NONE;
        int much = NONE;
        for (int n = 0; n < 1 << told.lines().size(); n++) {
            TreeSet<Integer> set = set(n);
            if (s.land.containsAll(set) && journeys.stream().allMatch(j -> joined(set, j[0], j[1]))) {
                int d = duty(kind, set);
                if (best == NONE || d < much) {
                    best = n;
                    much = d;
                }
            }
        }
        return what == 0 ? much : best;
    }

    int lands(int e, int what) {
        if (e < 0 || e > 12 || what < 0 || what > 2) {
            return OUTSIDE;
        }
        int lines = told.lines().size();
        List<Integer> all = new ArrayList<>();
        for (int n = 0; n < 1 << lines; n++) {
            int land = n;
            if (s.shows.stream().allMatch(shown -> wrong(shown, land) <= e)) {
                all.add(n);
            }
        }
        if (what == 0) {
            return all.size();
        }
        if (what == 1) {
            return all.isEmpty() ? NONE : all.stream().reduce((x, y) -> x & y).get();
        }
        int best = NONE;
        int bestPart = Integer.MAX_VALUE;
        for (int l = 0; l < lines; l++) {
            int bit = 1 << l;
            int in = (int) all.stream().filter(n -> (n & bit) != 0).count();
            int out = all.size() - in;
            if (in > 0 && out > 0 && Math.max(in, out) < bestPart) {
                best = l;
                bestPart = Math.max(in, out);
            }
        }
        return best;
    }

    private int wrong(TreeSet<Integer> shown, int land) {
        int n = 0;
        for (int l = 0; l < told.lines().size(); l++) {
            n += shown.contains(l) == ((land & 1 << l) != 0) ? 0 : 1;
        }
        return n;
    }

    int unlike(int m, int q) {
        if (!mapThere(m) || !mapThere(q) || m == q) {
            return UNKNOWN;
        }
        TreeSet<Integer> r = new TreeSet<>();
        for (int l = 0; l < told.lines().size(); l++) {
            if (s.shows.get(m).contains(l) != s.shows.get(q).contains(l)) {
                r.add(l);
            }
        }
        return number(r);
    }

    int cutOff(int a) {
        if (!place(a)) {
            return UNKNOWN;
        }
        TreeSet<Integer> r = new TreeSet<>();
        for (int b = 0; b < told.places(); b++) {
            if (!joined(s.land, a, b)) {
                r.add(b);
            }
        }
        return number(r);
    }

    int atRandom(int k, int what) {
        if (what < 0 || what > 2 || what != 2 && (k < 0 || k > 12)) {
            return OUTSIDE;
        }
        int just = 0;
        int more = 0;
        long sum = 0;
        int sets = 1 << told.lines().size();
        for (int n = 0; n < sets; n++) {
            int right = told.lines().size() - wrong(s.land, n);
            just += right == k ? 1 : 0;
            more += right >= k ? 1 : 0;
            if (what == 2) {
                sum += duty(0, set(n));
            }
        }
        return what == 0 ? just : what == 1 ? more : (int) (sum / sets);
    }

    int quiet(int n, int q) {
        if (n < 0 || n > 60 || q < 0 || q > 100) {
            return OUTSIDE;
        }
        return n == 0 ? 1000000000 : (int) ((long) quiet(n - 1, q) * q / 100);
    }

    // ---- journeys, the book

    int journey(int a, int b) {
        if (!place(a) || !place(b) || a == b) {
            return UNKNOWN;
        }
        if (journeys.size() == 4) {
            return FULL;
        }
        journeys.add(new int[] {a, b});
        return journeys.size();
    }

    int write(int m, int owes) {
        if (!mapThere(m)) {
            return UNKNOWN;
        }
        if (owes < 0 || owes > 99999) {
            return OUTSIDE;
        }
        if (book.size() == 15) {
            return FULL;
        }
        book.add(new int[] {m, owes});
        return book.size();
    }

    int tear() {
        int had = journeys.size() + book.size();
        journeys.clear();
        book.clear();
        return had;
    }

    int judge() {
        for (int n = 0; n < book.size(); n++) {
            if (s.owes.get(book.get(n)[0]) != book.get(n)[1]) {
                return n;
            }
        }
        return NONE;
    }

    // ---- draws, images

    int seed(int v) {
        if (v < 0) {
            return OUTSIDE;
        }
        int was = (int) seed;
        seed = v;
        return was;
    }

    int keep(int i) {
        if (i != 0 && i != 1) {
            return UNKNOWN;
        }
        images.put(i, new Image(s.twin(), seed));
        past.clear();
        return 1;
    }

    int goBack(int i) {
        if (i != 0 && i != 1) {
            return UNKNOWN;
        }
        if (!images.containsKey(i)) {
            return NOT;
        }
        s = images.get(i).state().twin();
        seed = images.get(i).seed();
        past.clear();
        return 1;
    }
}
