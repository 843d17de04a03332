import java.util.Arrays;

/** Maps are taxed wherever they are right: a survey, its land, what its maps owe, and what can be tried of them. */
public final class MapDuty {
    public static final int NONE = -1, UNKNOWN = -1000000001, OUTSIDE = -1000000002, NOT = -1000000003, FULL = -1000000004;

    private static final int MOST_LETTERS = 240, MOST_LETTER = 255;
    private static final int LEAST_PLACES = 2, MOST_PLACES = 8;
    private static final int MOST_LINES = 12, MOST_LINE_DUTY = 50;
    private static final int MOST_MAPS = 5, MOST_KIND = 4;
    private static final int MOST_INSPECTORS = 4, MOST_CHAIN = 12;
    private static final int MOST_JOURNEYS = 4, MOST_ENTRIES = 15;
    private static final int MOST_UNDONE = 16, IMAGES = 2;
    private static final int MOST_OWED = 99999, MOST_COUNTED = 999999;
    private static final int LAST_OPEN_DAY = 9000, MOST_DAYS_A_CALL = 60;
    private static final int MOST_YEARS = 60, HUNDRED = 100, BILLION = 1000000000;
    private static final int FINE = 10;

    /** A SET of LINES falls into two halves: LINES 0 to 5 and LINES 6 to 11. */
    private static final int HALF_LINES = 6, HALF_SETS = 64, HALF_MASK = 63;

    private static final int ROYAL = 1, SMUGGLERS = 2, CHILDRENS = 3, BLANK_ONE = 4;

    private static final int CANNOT_STAND = 1, BAD_NUMBER = 2, TOO_MANY = 3, SAME_LINE = 4;
    private static final int FAULT_ANSWER = -10;

    private final Reader reader;
    private final Plan draft;
    private final Plan plan;
    private final Standing now;
    private final Past past;
    private final Shelf images;
    private final Roads roads;
    private final Book book;
    private final Weights weights;
    private final Lands fitting;
    private int faultAt;
    /** A SET of IMAGES. */
    private int imagesKept;

    public MapDuty() {
        reader = new Reader();
        draft = new Plan();
        plan = new Plan();
        now = new Standing();
        past = new Past();
        images = new Shelf(IMAGES);
        roads = new Roads(plan);
        book = new Book();
        weights = new Weights();
        fitting = new Lands();
        faultAt = NONE;
    }

    // ---- the survey

    public int feed(int letter) {
        if (!within(letter, 0, MOST_LETTER)) {
            return OUTSIDE;
        }
        return reader.take(letter);
    }

    public int survey() {
        int number = reader.readInto(draft);
        faultAt = reader.faultAt;
        if (number != 0) {
            return FAULT_ANSWER - number;
        }
        plan.become(draft);
        now.begin(plan);
        book.empty();
        past.forget();
        imagesKept = 0;
        return plan.lines;
    }

    public int fault() {
        return faultAt;
    }

    public int told(int what) {
        switch (what) {
            case 0: return plan.places;
            case 1: return plan.lines;
            case 2: return plan.maps;
            case 3: return plan.inspectors;
            case 4: return reader.length;
            case 5: return now.days;
            case 6: return now.land;
            case 7: return now.paid;
            case 8: return now.fell;
            case 9: return roads.bridges(now.land);
            case 10: return poorest();
            case 11: return rightest();
            case 12: return book.journeys;
            case 13: return book.entries;
            case 14: return past.count;
            default: return OUTSIDE;
        }
    }

    public int line(int l, int what) {
        if (!isLine(l)) {
            return UNKNOWN;
        }
        switch (what) {
            case 0: return plan.from[l];
            case 1: return plan.to[l];
            case 2: return bit(now.land, l);
            case 3: return plan.duty[l];
            case 4: return mapsThatShow(l);
            default: return OUTSIDE;
        }
    }

    public int map(int m, int what) {
        if (!isMap(m)) {
            return UNKNOWN;
        }
        switch (what) {
            case 0: return plan.kind[m];
            case 1: return now.shows[m];
            case 2: return dutyOf(m);
            case 3: return now.owes[m];
            case 4: return rightLines(m);
            case 5: return roads.lostPairs(now.land, now.shows[m]);
            case 6: return roads.price(now.shows[m], now.land);
            default: return OUTSIDE;
        }
    }

    // ---- what is done

    public int draw(int m, int l, boolean shows) {
        if (!isMap(m) || !isLine(l)) {
            return UNKNOWN;
        }
        past.remember(now);
        int was = bit(now.shows[m], l);
        now.shows[m] = withBit(now.shows[m], l, shows);
        return was;
    }

    public int move(int l, boolean isTrue) {
        if (!isLine(l)) {
            return UNKNOWN;
        }
        past.remember(now);
        int was = bit(now.land, l);
        now.land = withBit(now.land, l, isTrue);
        return was;
    }

    public int copy(int m, int from) {
        if (!areTwoMaps(m, from)) {
            return UNKNOWN;
        }
        past.remember(now);
        int was = now.shows[m];
        now.shows[m] = now.shows[from];
        return was;
    }

    public int assess(int m) {
        if (!isMap(m)) {
            return UNKNOWN;
        }
        past.remember(now);
        int due = now.owes[m] + dutyOf(m);
        now.owes[m] = 0;
        now.paid = Math.min(MOST_COUNTED, now.paid + due);
        return due;
    }

    public int inspect(int i, int m) {
        if (!isInspector(i) || !isMap(m)) {
            return UNKNOWN;
        }
        past.remember(now);
        int fine = fineBy(i, m);
        now.oweMore(m, fine);
        return fine;
    }

    public int walk(int m, int a, int b) {
        if (!isMap(m) || !areTwoPlaces(a, b)) {
            return UNKNOWN;
        }
        int shows = now.shows[m];
        roads.measure(shows, b);
        if (roads.far[a] == NONE) {
            return NOT;
        }
        past.remember(now);
        if (roads.goneBeforeFall(shows, now.land, a) == NONE) {
            return 1;
        }
        now.fell = Math.min(MOST_COUNTED, now.fell + 1);
        return 0;
    }

    public int day(int n) {
        int refusal = refusalOfDays(n);
        if (refusal != 0) {
            return refusal;
        }
        past.remember(now);
        for (int i = 0; i < n; i++) {
            passDay();
        }
        return owedByAll();
    }

    public int drift(int n) {
        int refusal = refusalOfDays(n);
        if (refusal != 0) {
            return refusal;
        }
        past.remember(now);
        for (int i = 0; i < n; i++) {
            if (plan.lines > 0) {
                happenByDraw();
            }
            passDay();
        }
        return owedByAll();
    }

    public int undo() {
        if (past.count == 0) {
            return NOT;
        }
        int seedNow = now.seed;
        past.recall(now);
        now.seed = seedNow;
        return past.count;
    }

    // ---- tried

    public int way(int m, int a, int b, int what) {
        if ((m != NONE && !isMap(m)) || !areTwoPlaces(a, b)) {
            return UNKNOWN;
        }
        if (!within(what, 0, 2)) {
            return OUTSIDE;
        }
        int set = isMap(m) ? now.shows[m] : now.land;
        roads.measure(set, b);
        if (what == 0 || roads.far[a] == NONE) {
            return roads.far[a];
        }
        return what == 1 ? roads.nextLine(set, a) : roads.goneBeforeFall(set, now.land, a);
    }

    public int least(int kind, int what) {
        if (!within(kind, 0, MOST_KIND) || !within(what, 0, 1)) {
            return OUTSIDE;
        }
        if (!book.allMadeBy(roads, now.land)) {
            return NONE;
        }
        int set = leastSet(kind);
        return what == 0 ? plan.dutyAs(kind, set, now.land) : set;
    }

    public int lands(int e, int what) {
        if (!within(e, 0, MOST_LINES) || !within(what, 0, 2)) {
            return OUTSIDE;
        }
        fitting.gather(plan, now.shows, e);
        if (what == 0) {
            return fitting.many;
        }
        if (fitting.many == 0) {
            return NONE;
        }
        return what == 1 ? fitting.inAll : fitting.lineToWalk(plan.lines);
    }

    public int finds(int i, int m) {
        if (!isInspector(i) || !isMap(m)) {
            return UNKNOWN;
        }
        return fineBy(i, m);
    }

    public int unlike(int m, int q) {
        if (!areTwoMaps(m, q)) {
            return UNKNOWN;
        }
        return now.shows[m] ^ now.shows[q];
    }

    public int cutOff(int a) {
        if (!isPlace(a)) {
            return UNKNOWN;
        }
        return allOf(plan.places) & ~roads.reach(now.land, a);
    }

    public int atRandom(int k, int what) {
        if (what == 2) {
            return dutyAtRandom();
        }
        if (!within(k, 0, MOST_LINES) || !within(what, 0, 1)) {
            return OUTSIDE;
        }
        return what == 0 ? choices(plan.lines, k) : choicesFrom(plan.lines, k);
    }

    public int quiet(int n, int q) {
        if (!within(n, 0, MOST_YEARS) || !within(q, 0, HUNDRED)) {
            return OUTSIDE;
        }
        long odds = BILLION;
        for (int year = 0; year < n; year++) {
            odds = odds * q / HUNDRED;
        }
        return (int) odds;
    }

    // ---- journeys, the book

    public int journey(int a, int b) {
        if (!areTwoPlaces(a, b)) {
            return UNKNOWN;
        }
        return book.tell(a, b);
    }

    public int write(int m, int owes) {
        if (!isMap(m)) {
            return UNKNOWN;
        }
        if (!within(owes, 0, MOST_OWED)) {
            return OUTSIDE;
        }
        return book.enter(m, owes);
    }

    public int tear() {
        int had = book.journeys + book.entries;
        book.empty();
        return had;
    }

    public int judge() {
        return book.firstWrong(now.owes);
    }

    // ---- draws, images

    public int seed(int v) {
        if (v < 0) {
            return OUTSIDE;
        }
        int was = now.seed;
        now.seed = v;
        return was;
    }

    public int keep(int i) {
        if (!isImage(i)) {
            return UNKNOWN;
        }
        images.put(i, now);
        imagesKept = withBit(imagesKept, i, true);
        past.forget();
        return 1;
    }

    public int goBack(int i) {
        if (!isImage(i)) {
            return UNKNOWN;
        }
        if (bit(imagesKept, i) == 0) {
            return NOT;
        }
        images.fetch(i, now);
        past.forget();
        return 1;
    }

    // ---- what there is

    private boolean isPlace(int a) {
        return a >= 0 && a < plan.places && a < MOST_PLACES;
    }

    private boolean isLine(int l) {
        return l >= 0 && l < plan.lines && l < MOST_LINES;
    }

    private boolean isMap(int m) {
        return m >= 0 && m < plan.maps && m < MOST_MAPS;
    }

    private boolean isInspector(int i) {
        return i >= 0 && i < plan.inspectors && i < MOST_INSPECTORS;
    }

    private boolean isImage(int i) {
        return i >= 0 && i < IMAGES;
    }

    private boolean areTwoPlaces(int a, int b) {
        return isPlace(a) && isPlace(b) && a != b;
    }

    private boolean areTwoMaps(int m, int q) {
        return isMap(m) && isMap(q) && m != q;
    }

    private static boolean within(int number, int least, int most) {
        return number >= least && number <= most;
    }

    private static int bit(int set, int k) {
        return (set >>> k) & 1;
    }

    private static int withBit(int set, int k, boolean there) {
        return there ? set | (1 << k) : set & ~(1 << k);
    }

    private static int allOf(int many) {
        return (1 << many) - 1;
    }

    // ---- of maps

    private int dutyOf(int m) {
        return isMap(m) ? plan.dutyAs(plan.kind[m], now.shows[m], now.land) : 0;
    }

    private int rightLines(int m) {
        return isMap(m) ? allOf(plan.lines) & ~(now.shows[m] ^ now.land) : 0;
    }

    private int mapsThatShow(int l) {
        int set = 0;
        for (int m = 0; m < plan.maps; m++) {
            set |= bit(now.shows[m], l) << m;
        }
        return set;
    }

    private int poorest() {
        int best = NONE;
        int bestDuty = 0;
        for (int m = 0; m < plan.maps; m++) {
            int duty = dutyOf(m);
            if (best == NONE || duty < bestDuty) {
                best = m;
                bestDuty = duty;
            }
        }
        return best;
    }

    private int rightest() {
        int best = NONE;
        int bestCount = 0;
        for (int m = 0; m < plan.maps; m++) {
            int count = Integer.bitCount(rightLines(m));
            if (best == NONE || count > bestCount) {
                best = m;
                bestCount = count;
            }
        }
        return best;
    }

    private int owedByAll() {
        int sum = 0;
        for (int m = 0; m < plan.maps; m++) {
            sum += now.owes[m];
        }
        return sum;
    }

    private int fineBy(int i, int m) {
        if (!isInspector(i) || !isMap(m)) {
            return 0;
        }
        return FINE * plan.untrueSeen(plan.chain[i], now.shows[m], now.land);
    }

    // ---- of days

    private int refusalOfDays(int n) {
        if (!within(n, 1, MOST_DAYS_A_CALL)) {
            return OUTSIDE;
        }
        if (plan.places == 0) {
            return NOT;
        }
        return now.days > LAST_OPEN_DAY ? FULL : 0;
    }

    private void passDay() {
        for (int m = 0; m < plan.maps; m++) {
            now.oweMore(m, dutyOf(m));
        }
        now.days++;
    }

    /** What comes ahead of a DAY; it is asked only where there are LINES. */
    private void happenByDraw() {
        int lot = now.drawOf(5);
        if (lot == 0) {
            now.land ^= 1 << now.drawOf(plan.lines);
        } else if (lot == 1 && plan.maps > 0) {
            int m = now.drawOf(plan.maps);
            int l = now.drawOf(plan.lines);
            if (isMap(m)) {
                now.shows[m] ^= 1 << l;
            }
        } else if (lot == 2 && plan.maps > 0 && plan.inspectors > 0) {
            int i = now.drawOf(plan.inspectors);
            int m = now.drawOf(plan.maps);
            now.oweMore(m, fineBy(i, m));
        }
    }

    // ---- of all sets

    /** The land itself makes all JOURNEYS where this is asked, so it is the first to beat. */
    private int leastSet(int kind) {
        int land = now.land;
        weights.weigh(plan, kind);
        int best = land;
        int bestDuty = weights.of(land) + 1;
        int many = 1 << Integer.bitCount(land);
        int set = 0;
        for (int n = 0; n < many; n++) {
            int duty = weights.of(set);
            if (duty < bestDuty && book.allMadeBy(roads, set)) {
                best = set;
                bestDuty = duty;
            }
            set = (set - land) & land;
        }
        return best;
    }

    /** Each TRUE line is SHOWN by just half of all SETS, so their mean is half of what the land is worth. */
    private int dutyAtRandom() {
        return plan.dutyAs(0, now.land, now.land) / 2;
    }

    /** A SET is RIGHT in just the LINES that one chooses, so SETS right in k are the choices of k out of all. */
    private static int choices(int all, int k) {
        if (k > all) {
            return 0;
        }
        int many = 1;
        for (int taken = 0; taken < k; taken++) {
            many = many * (all - taken) / (taken + 1);
        }
        return many;
    }

    private static int choicesFrom(int all, int k) {
        int many = 0;
        for (int count = k; count <= all; count++) {
            many += choices(all, count);
        }
        return many;
    }

    /** What the survey told: it changes only by another survey. */
    private static final class Plan {
        int places;
        int lines;
        int maps;
        int inspectors;
        /** LINES that are TRUE at first. */
        int land;
        final int[] from = new int[MOST_LINES];
        final int[] to = new int[MOST_LINES];
        final int[] duty = new int[MOST_LINES];
        /** LINES by the order in which an inspector looks at them. */
        final int[] looked = new int[MOST_LINES];
        final int[] kind = new int[MOST_MAPS];
        final int[] shows = new int[MOST_MAPS];
        final int[] chain = new int[MOST_INSPECTORS];

        void clear() {
            places = 0;
            lines = 0;
            maps = 0;
            inspectors = 0;
            land = 0;
        }

        void become(Plan other) {
            places = other.places;
            lines = other.lines;
            maps = other.maps;
            inspectors = other.inspectors;
            land = other.land;
            System.arraycopy(other.from, 0, from, 0, MOST_LINES);
            System.arraycopy(other.to, 0, to, 0, MOST_LINES);
            System.arraycopy(other.duty, 0, duty, 0, MOST_LINES);
            System.arraycopy(other.looked, 0, looked, 0, MOST_LINES);
            System.arraycopy(other.kind, 0, kind, 0, MOST_MAPS);
            System.arraycopy(other.shows, 0, shows, 0, MOST_MAPS);
            System.arraycopy(other.chain, 0, chain, 0, MOST_INSPECTORS);
        }

        void addLine(int a, int b, int isTrue, int worth) {
            if (lines >= MOST_LINES) {
                return;
            }
            int spot = lines;
            while (spot > 0 && worthOf(looked[spot - 1]) < worth) {
                looked[spot] = looked[spot - 1];
                spot--;
            }
            looked[spot] = lines;
            from[lines] = a;
            to[lines] = b;
            duty[lines] = worth;
            land |= isTrue << lines;
            lines++;
        }

        void addMap(int ofKind, int set) {
            if (maps >= MOST_MAPS) {
                return;
            }
            kind[maps] = ofKind;
            shows[maps] = set;
            maps++;
        }

        void addInspector(int length) {
            if (inspectors >= MOST_INSPECTORS) {
                return;
            }
            chain[inspectors] = length;
            inspectors++;
        }

        boolean joins(int a, int b) {
            for (int l = 0; l < lines; l++) {
                if ((from[l] == a && to[l] == b) || (from[l] == b && to[l] == a)) {
                    return true;
                }
            }
            return false;
        }

        int worthOf(int l) {
            return l >= 0 && l < MOST_LINES ? duty[l] : 0;
        }

        /** DUTY of a TRUE line that a map of this kind SHOWS. */
        int lineDuty(int ofKind, int l) {
            int worth = worthOf(l);
            switch (ofKind) {
                case ROYAL: return 2 * worth;
                case SMUGGLERS: return worth / 2;
                case CHILDRENS: return Math.min(1, worth);
                default: return worth;
            }
        }

        int dutyAs(int ofKind, int set, int trueLines) {
            int sum = 0;
            for (int l = 0; l < lines; l++) {
                int shown = bit(set, l);
                if (shown == 1 && bit(trueLines, l) == 1) {
                    sum += lineDuty(ofKind, l);
                } else if (ofKind == BLANK_ONE && shown == 0 && bit(trueLines, l) == 0) {
                    sum += duty[l] / 3;
                }
            }
            return sum;
        }

        /** How many LINES that are not TRUE stand among the shown ones that a chain is long enough for. */
        int untrueSeen(int length, int set, int trueLines) {
            int left = length;
            int found = 0;
            for (int n = 0; n < lines && left > 0; n++) {
                if (bit(set, looked[n]) == 1) {
                    left--;
                    found += 1 - bit(trueLines, looked[n]);
                }
            }
            return found;
        }
    }

    /** THE TEXT, and how a survey is read out of it. */
    private static final class Reader {
        final int[] letters = new int[MOST_LETTERS];
        int length;
        /** The letter of the latest reading's FAULT; NONE. */
        int faultAt = NONE;
        private int faultNumber;
        private int at;
        private int numberAt;

        int take(int letter) {
            if (length >= MOST_LETTERS) {
                return FULL;
            }
            letters[length] = letter;
            length++;
            return length;
        }

        /** Empties the text; answers the number of its FAULT, 0 for none. */
        int readInto(Plan plan) {
            at = 0;
            faultNumber = 0;
            faultAt = NONE;
            plan.clear();
            passBlanks();
            for (int clause = 0; clause < MOST_LETTERS && at < length && faultNumber == 0; clause++) {
                readClause(plan);
                passBlanks();
            }
            length = 0;
            return faultNumber;
        }

        private void readClause(Plan plan) {
            int word = letterHere();
            int wrong = wordFault(plan, word);
            if (wrong != 0) {
                spoil(wrong, at);
                return;
            }
            at++;
            switch (word) {
                case 'n': readPlaces(plan); break;
                case 'l': readLine(plan); break;
                case 'm': readMap(plan); break;
                default: readInspector(plan); break;
            }
        }

        private static int wordFault(Plan plan, int word) {
            switch (word) {
                case 'n':
                    return plan.places > 0 ? TOO_MANY : 0;
                case 'l':
                    if (plan.places == 0 || plan.maps > 0) {
                        return CANNOT_STAND;
                    }
                    return plan.lines >= MOST_LINES ? TOO_MANY : 0;
                case 'm':
                    if (plan.places == 0) {
                        return CANNOT_STAND;
                    }
                    return plan.maps >= MOST_MAPS ? TOO_MANY : 0;
                case 'i':
                    if (plan.places == 0) {
                        return CANNOT_STAND;
                    }
                    return plan.inspectors >= MOST_INSPECTORS ? TOO_MANY : 0;
                default:
                    return CANNOT_STAND;
            }
        }

        private void readPlaces(Plan plan) {
            int many = number(LEAST_PLACES, MOST_PLACES);
            endClause();
            if (faultNumber == 0) {
                plan.places = many;
            }
        }

        private void readLine(Plan plan) {
            int a = number(0, plan.places - 1);
            int b = number(0, plan.places - 1);
            if (faultNumber == 0 && (a == b || plan.joins(a, b))) {
                spoil(SAME_LINE, numberAt);
            }
            int isTrue = number(0, 1);
            int worth = number(0, MOST_LINE_DUTY);
            endClause();
            if (faultNumber == 0) {
                plan.addLine(a, b, isTrue, worth);
            }
        }

        private void readMap(Plan plan) {
            int kind = number(0, MOST_KIND);
            int low = number(0, HALF_MASK);
            forbid(low & ~allOf(plan.lines));
            int high = number(0, HALF_MASK);
            forbid((high << HALF_LINES) & ~allOf(plan.lines));
            endClause();
            if (faultNumber == 0) {
                plan.addMap(kind, low | (high << HALF_LINES));
            }
        }

        private void readInspector(Plan plan) {
            int chain = number(1, MOST_CHAIN);
            endClause();
            if (faultNumber == 0) {
                plan.addInspector(chain);
            }
        }

        /** The number just read has these bits too many. */
        private void forbid(int bits) {
            if (bits != 0) {
                spoil(BAD_NUMBER, numberAt);
            }
        }

        private int number(int least, int most) {
            passBlanks();
            numberAt = at;
            if (!isFigure(letterHere())) {
                spoil(CANNOT_STAND, at);
                return 0;
            }
            int value = 0;
            while (at < length && isFigure(letterHere())) {
                // a fourth figure spoils the number, whatever its value
                if (at - numberAt < 3) {
                    value = value * 10 + letterHere() - '0';
                }
                at++;
            }
            if (at - numberAt > 3 || !within(value, least, most)) {
                spoil(BAD_NUMBER, numberAt);
            }
            return value;
        }

        private void endClause() {
            passBlanks();
            if (letterHere() == ';') {
                at++;
            } else {
                spoil(CANNOT_STAND, at);
            }
        }

        private void passBlanks() {
            while (at < length && letterHere() == ' ') {
                at++;
            }
        }

        private int letterHere() {
            return at >= 0 && at < length && at < MOST_LETTERS ? letters[at] : NONE;
        }

        private static boolean isFigure(int letter) {
            return letter >= '0' && letter <= '9';
        }

        /** Reading goes from left to right, so the first FAULT is the one that stays. */
        private void spoil(int number, int place) {
            if (faultNumber == 0) {
                faultNumber = number;
                faultAt = place;
            }
        }
    }

    /** All of section 2 as it is, and THE SEED. */
    private static final class Standing {
        int land;
        int days;
        int paid;
        int fell;
        int seed;
        final int[] shows = new int[MOST_MAPS];
        final int[] owes = new int[MOST_MAPS];

        /** THE SEED stays. */
        void begin(Plan plan) {
            land = plan.land;
            days = 0;
            paid = 0;
            fell = 0;
            System.arraycopy(plan.shows, 0, shows, 0, MOST_MAPS);
            Arrays.fill(owes, 0);
        }

        void oweMore(int m, int much) {
            if (m >= 0 && m < MOST_MAPS) {
                owes[m] = Math.min(MOST_OWED, owes[m] + much);
            }
        }

        int drawOf(int many) {
            if (many < 1) {
                return 0;
            }
            seed = (int) ((seed * 1103515245L + 12345L) & 0x7fffffffL);
            return seed / 65536 % many;
        }
    }

    /** Standings side by side in one row, so that keeping one makes no objects. */
    private static final class Shelf {
        private static final int SHOWS_AT = 5, OWES_AT = 10, WIDTH = 15;
        private final int slots;
        private final int[] cells;

        Shelf(int many) {
            slots = Math.max(0, Math.min(many, MOST_UNDONE));
            cells = new int[slots * WIDTH];
        }

        void put(int slot, Standing one) {
            if (slot < 0 || slot >= slots) {
                return;
            }
            int at = slot * WIDTH;
            cells[at] = one.land;
            cells[at + 1] = one.days;
            cells[at + 2] = one.paid;
            cells[at + 3] = one.fell;
            cells[at + 4] = one.seed;
            System.arraycopy(one.shows, 0, cells, at + SHOWS_AT, MOST_MAPS);
            System.arraycopy(one.owes, 0, cells, at + OWES_AT, MOST_MAPS);
        }

        void fetch(int slot, Standing one) {
            if (slot < 0 || slot >= slots) {
                return;
            }
            int at = slot * WIDTH;
            one.land = cells[at];
            one.days = cells[at + 1];
            one.paid = cells[at + 2];
            one.fell = cells[at + 3];
            one.seed = cells[at + 4];
            System.arraycopy(cells, at + SHOWS_AT, one.shows, 0, MOST_MAPS);
            System.arraycopy(cells, at + OWES_AT, one.owes, 0, MOST_MAPS);
        }
    }

    /** What can be undone: a ring, in which a new one takes the oldest one's slot when all are taken. */
    private static final class Past {
        private final Shelf shelf = new Shelf(MOST_UNDONE);
        private int next;
        int count;

        void remember(Standing one) {
            shelf.put(next, one);
            next = (next + 1) % MOST_UNDONE;
            count = Math.min(MOST_UNDONE, count + 1);
        }

        void recall(Standing one) {
            if (count == 0) {
                return;
            }
            next = (next + MOST_UNDONE - 1) % MOST_UNDONE;
            count--;
            shelf.fetch(next, one);
        }

        void forget() {
            count = 0;
        }
    }

    /** JOURNEYS and THE BOOK. */
    private static final class Book {
        int journeys;
        int entries;
        private final int[] starts = new int[MOST_JOURNEYS];
        private final int[] goals = new int[MOST_JOURNEYS];
        private final int[] maps = new int[MOST_ENTRIES];
        private final int[] amounts = new int[MOST_ENTRIES];

        void empty() {
            journeys = 0;
            entries = 0;
        }

        int tell(int a, int b) {
            if (journeys >= MOST_JOURNEYS) {
                return FULL;
            }
            starts[journeys] = a;
            goals[journeys] = b;
            journeys++;
            return journeys;
        }

        int enter(int m, int amount) {
            if (entries >= MOST_ENTRIES) {
                return FULL;
            }
            maps[entries] = m;
            amounts[entries] = amount;
            entries++;
            return entries;
        }

        int firstWrong(int[] owes) {
            for (int n = 0; n < entries; n++) {
                int m = maps[n];
                if (m >= 0 && m < owes.length && owes[m] != amounts[n]) {
                    return n;
                }
            }
            return NONE;
        }

        boolean allMadeBy(Roads roads, int set) {
            for (int j = 0; j < journeys; j++) {
                if (bit(roads.reach(set, starts[j]), goals[j]) == 0) {
                    return false;
                }
            }
            return true;
        }
    }

    /** WAYS by SETS of LINES. */
    private static final class Roads {
        private final Plan plan;
        /** How many LINES there are from each PLACE to the one last measured to; NONE: no WAY. */
        final int[] far = new int[MOST_PLACES];

        Roads(Plan plan) {
            this.plan = plan;
        }

        /** A SET of PLACES: a itself, and all to which there is a WAY. */
        int reach(int set, int a) {
            int seen = 1 << a;
            boolean grown = true;
            for (int round = 0; grown && round < MOST_PLACES; round++) {
                grown = false;
                for (int l = 0; l < plan.lines; l++) {
                    if (bit(set, l) == 1 && bit(seen, plan.from[l]) != bit(seen, plan.to[l])) {
                        seen |= (1 << plan.from[l]) | (1 << plan.to[l]);
                        grown = true;
                    }
                }
            }
            return seen;
        }

        void measure(int set, int goal) {
            Arrays.fill(far, NONE);
            if (goal >= 0 && goal < MOST_PLACES) {
                far[goal] = 0;
            }
            boolean grown = true;
            for (int gone = 0; grown && gone < MOST_PLACES; gone++) {
                grown = false;
                for (int l = 0; l < plan.lines; l++) {
                    if (bit(set, l) == 1) {
                        grown |= spread(plan.from[l], plan.to[l], gone);
                        grown |= spread(plan.to[l], plan.from[l], gone);
                    }
                }
            }
        }

        private boolean spread(int near, int beyond, int gone) {
            if (farFrom(near) != gone || farFrom(beyond) != NONE || !within(beyond, 0, MOST_PLACES - 1)) {
                return false;
            }
            far[beyond] = gone + 1;
            return true;
        }

        private int farFrom(int place) {
            return place >= 0 && place < MOST_PLACES ? far[place] : NONE;
        }

        /** The least LINE by which one comes nearer to what was measured to. */
        int nextLine(int set, int here) {
            int nearer = farFrom(here) - 1;
            if (nearer < 0) {
                return NONE;
            }
            for (int l = 0; l < plan.lines; l++) {
                if (bit(set, l) == 1) {
                    int there = otherEnd(l, here);
                    if (there != NONE && farFrom(there) == nearer) {
                        return l;
                    }
                }
            }
            return NONE;
        }

        private int otherEnd(int l, int here) {
            if (l < 0 || l >= MOST_LINES) {
                return NONE;
            }
            if (plan.from[l] == here) {
                return plan.to[l];
            }
            return plan.to[l] == here ? plan.from[l] : NONE;
        }

        /** On the WAY to what was measured to: how many LINES one goes ahead of the first untrue one; NONE: there is none. */
        int goneBeforeFall(int set, int land, int start) {
            int all = farFrom(start);
            int here = start;
            for (int gone = 0; gone < all; gone++) {
                int l = nextLine(set, here);
                if (l == NONE) {
                    return NONE;
                }
                if (bit(land, l) == 0) {
                    return gone;
                }
                here = otherEnd(l, here);
            }
            return NONE;
        }

        int bridges(int land) {
            int set = 0;
            for (int l = 0; l < plan.lines; l++) {
                if (bit(land, l) == 1 && bit(reach(land ^ (1 << l), plan.from[l]), plan.to[l]) == 0) {
                    set |= 1 << l;
                }
            }
            return set;
        }

        /** Pairs of PLACES with a WAY by the land, none by what is shown. */
        int lostPairs(int land, int shows) {
            int many = 0;
            for (int a = 0; a < plan.places; a++) {
                int lost = reach(land, a) & ~reach(shows, a);
                many += Integer.bitCount(lost >>> (a + 1));
            }
            return many;
        }

        int price(int shows, int land) {
            int worth = 0;
            for (int b = 1; b < plan.places; b++) {
                measure(shows, b);
                for (int a = 0; a < b; a++) {
                    if (far[a] != NONE) {
                        worth += goneBeforeFall(shows, land, a) == NONE ? 3 : -1;
                    }
                }
            }
            return Math.max(0, worth);
        }
    }

    /** DUTY of each half of a SET of TRUE lines, so that a whole SET's is two look-ups. */
    private static final class Weights {
        private final int[] low = new int[HALF_SETS];
        private final int[] high = new int[HALF_SETS];

        void weigh(Plan plan, int kind) {
            for (int set = 1; set < HALF_SETS; set++) {
                int first = Integer.numberOfTrailingZeros(set);
                int rest = set & (set - 1);
                low[set] = low[rest] + plan.lineDuty(kind, first);
                high[set] = high[rest] + plan.lineDuty(kind, first + HALF_LINES);
            }
        }

        int of(int set) {
            return low[set & HALF_MASK] + high[(set >> HALF_LINES) & HALF_MASK];
        }
    }

    /** SETS of LINES that can be TRUE, if each map has so many errors at most. */
    private static final class Lands {
        int many;
        /** LINES that are in all of them. */
        int inAll;
        /** How many of them have each LINE. */
        private final int[] having = new int[MOST_LINES];

        void gather(Plan plan, int[] shows, int errors) {
            many = 0;
            inAll = allOf(plan.lines);
            Arrays.fill(having, 0);
            int sets = 1 << plan.lines;
            for (int set = 0; set < sets; set++) {
                if (fits(set, plan.maps, shows, errors)) {
                    count(set, plan.lines);
                }
            }
        }

        private static boolean fits(int set, int maps, int[] shows, int errors) {
            for (int m = 0; m < maps && m < shows.length; m++) {
                if (Integer.bitCount(set ^ shows[m]) > errors) {
                    return false;
                }
            }
            return true;
        }

        private void count(int set, int lines) {
            many++;
            inAll &= set;
            for (int l = 0; l < lines && l < MOST_LINES; l++) {
                having[l] += bit(set, l);
            }
        }

        int lineToWalk(int lines) {
            int best = NONE;
            int bestPart = many;
            for (int l = 0; l < lines && l < MOST_LINES; l++) {
                int part = Math.max(having[l], many - having[l]);
                if (part < bestPart) {
                    best = l;
                    bestPart = part;
                }
            }
            return best;
        }
    }
}
