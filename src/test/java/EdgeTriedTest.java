import java.util.ArrayList;
import java.util.List;

/** Section 3 as far as it is tried, promises 17 to 28: NONE, "of like ones the least", bounds, journeys, the book. */
public final class EdgeTriedTest {
    private static final Due DUE = new Due();
    private static final String ROW = "n8;l0 1 1 1;l1 2 1 1;l2 3 1 1;l3 4 1 1;l4 5 1 1;l5 6 1 1;l6 7 1 1;m0 63 1;";
    private static final String[] PAIRS = {"0 1", "0 2", "0 3", "0 4", "0 5", "0 6", "0 7", "1 2", "1 3", "1 4", "1 5", "1 6"};

    public static void main(String[] args) {
        wayOfOneToSevenLines();
        wayThatThereIsNot();
        wayOfLikeOnes();
        leastWithoutJourneys();
        leastWhereThereIsNone();
        leastOfLikeOnes();
        leastCutsAsKindsDo();
        leastByEachLine();
        landsByErrors();
        landsWhereThereAreNone();
        lineToWalkOfLikeOnes();
        lineToWalkWhereNonePartsThem();
        finds();
        unlike();
        bridges();
        cutOff();
        poorest();
        rightest();
        atRandomOfEachNumberOfLines();
        atRandomDuty();
        lost();
        price0AtLeast();
        quietYears();
        fourJourneys();
        fifteenEntries();
        entriesOf0To99999();
        firstWrongEntry();
        tearCountsBoth();
        nothingChangesByTrying();
        DUE.end();
    }

    private static void ways(MapDuty x, int m, int a, int b, int... due) {
        for (int what = 0; what < 3; what++) {
            DUE.is("way(" + m + ", " + a + ", " + b + ", " + what + ")", x.way(m, a, b, what), due[what]);
        }
    }

    private static String lines(int many, int isTrue, int duty) {
        StringBuilder text = new StringBuilder("n8;");
        for (int l = 0; l < many; l++) {
            text.append("l" + PAIRS[l] + " " + isTrue + " " + duty + ";");
        }
        return text.toString();
    }

    /** "how many LINES; the first LINE; behind how many LINES, gone without, one FALLS (0: at the first; NONE: never)". */
    private static void wayOfOneToSevenLines() {
        for (int b = 1; b < 8; b++) {
            MapDuty x = Due.surveyed(ROW);
            ways(x, 0, 0, b, b, 0, Due.NONE);
            ways(x, 0, b, 0, b, b - 1, Due.NONE);
            ways(x, Due.NONE, 0, b, b, 0, Due.NONE);
            x.move(b - 1, false);
            ways(x, 0, 0, b, b, 0, b - 1);
            ways(x, 0, b, 0, b, b - 1, 0);
            ways(x, Due.NONE, 0, b, Due.NONE, Due.NONE, Due.NONE);
            x.move(0, false);
            ways(x, 0, 0, b, b, 0, 0);
        }
    }

    /** "NONE: there is no WAY": no line, lines elsewhere, and the land's own way does not count for a map. */
    private static void wayThatThereIsNot() {
        MapDuty x = Due.surveyed("n4;l0 1 1 1;l1 2 1 1;l2 3 0 1;m0 0 0;m0 1 0;m0 4 0;");
        ways(x, 0, 0, 1, Due.NONE, Due.NONE, Due.NONE);
        ways(x, 1, 0, 2, Due.NONE, Due.NONE, Due.NONE);
        ways(x, 2, 0, 3, Due.NONE, Due.NONE, Due.NONE);
        ways(x, 2, 2, 3, 1, 2, 0);
        ways(x, Due.NONE, 0, 3, Due.NONE, Due.NONE, Due.NONE);
        ways(x, Due.NONE, 0, 2, 2, 0, Due.NONE);
        ways(Due.surveyed("n2;"), Due.NONE, 0, 1, Due.NONE, Due.NONE, Due.NONE);
    }

    /** By the land, too, "of like ones the first". */
    private static void wayOfLikeOnes() {
        MapDuty x = Due.surveyed("n4;l2 3 1 1;l0 2 1 1;l0 1 1 1;l1 3 0 1;m0 15 0;");
        ways(x, 0, 0, 3, 2, 1, Due.NONE);
        ways(x, 0, 3, 0, 2, 0, Due.NONE);
        ways(x, 0, 1, 2, 2, 2, Due.NONE);
        ways(x, 0, 2, 1, 2, 0, 1);
        x.draw(0, 0, false);
        ways(x, 0, 0, 3, 2, 2, 1);
        ways(x, Due.NONE, 0, 3, 2, 1, Due.NONE);
    }

    private static void leasts(MapDuty x, int kind, int much, int set) {
        DUE.is("least(" + kind + ", 0)", x.least(kind, 0), much);
        DUE.is("least(" + kind + ", 1)", x.least(kind, 1), set);
    }

    /** Each of no journeys is made by no line at all. */
    private static void leastWithoutJourneys() {
        MapDuty x = Due.surveyed("n3;l0 1 1 50;l1 2 0 50;m0 3 0;");
        for (int kind = 0; kind < 4; kind++) {
            leasts(x, kind, 0, 0);
            leasts(new MapDuty(), kind, 0, 0);
        }
        leasts(x, 4, 16, 0);
        leasts(new MapDuty(), 4, 0, 0);
    }

    /** "NONE: by none". */
    private static void leastWhereThereIsNone() {
        MapDuty x = Due.surveyed("n3;l0 1 1 7;l1 2 0 5;m0 3 0;");
        x.journey(0, 1);
        leasts(x, 0, 7, 1);
        x.journey(0, 2);
        for (int kind = 0; kind <= 4; kind++) {
            leasts(x, kind, Due.NONE, Due.NONE);
        }
        x.move(1, true);
        leasts(x, 0, 12, 3);
        x.move(0, false);
        leasts(x, 0, Due.NONE, Due.NONE);
    }

    /** "of like ones the least": of sets, the lesser number, also where it has more lines. */
    private static void leastOfLikeOnes() {
        MapDuty x = Due.surveyed("n4;l0 1 1 0;l1 2 1 0;l2 3 1 0;l0 3 1 0;");
        x.journey(0, 3);
        leasts(x, 0, 0, 7);
        x.move(1, false);
        leasts(x, 0, 0, 8);
        x = Due.surveyed("n3;l0 1 1 2;l1 2 1 3;l0 2 1 5;");
        x.journey(2, 0);
        leasts(x, 0, 5, 3);
        x = Due.surveyed("n3;l0 1 1 2;l1 2 1 3;l0 2 1 4;");
        x.journey(2, 0);
        leasts(x, 0, 4, 4);
        // lines worth nothing come along only where they are needed
        x = Due.surveyed("n3;l0 1 1 0;l0 2 1 4;l1 2 1 0;");
        x.journey(0, 1);
        leasts(x, 0, 0, 1);
        x.journey(0, 2);
        leasts(x, 0, 0, 5);
    }

    /** "least DUTY as a KIND counts it": halves and children's 1 are cut line by line. */
    private static void leastCutsAsKindsDo() {
        MapDuty x = Due.surveyed("n3;l0 1 1 1;l1 2 1 1;l0 2 1 2;");
        x.journey(0, 2);
        leasts(x, 0, 2, 3);
        leasts(x, 1, 4, 3);
        leasts(x, 2, 0, 3);
        leasts(x, 3, 1, 4);
        leasts(x, 4, 2, 3);
        x = Due.surveyed("n3;l0 1 1 49;l1 2 1 0;l0 2 1 50;");
        x.journey(0, 2);
        leasts(x, 0, 49, 3);
        leasts(x, 2, 24, 3);
        leasts(x, 3, 1, 3);
        x.move(1, false);
        leasts(x, 0, 50, 4);
        leasts(x, 1, 100, 4);
        leasts(x, 4, 50, 4);
        // four journeys take four of the lines from 0
        x = Due.surveyed(lines(12, 1, 50));
        for (int b = 4; b < 8; b++) {
            x.journey(0, b);
        }
        leasts(x, 0, 200, 8 + 16 + 32 + 64);
        leasts(x, 1, 400, 8 + 16 + 32 + 64);
    }

    /** Each of twelve lines as the one from 0 to 1, worth less, as much or more than the way round, which is worth 3. */
    private static void leastByEachLine() {
        for (int l = 0; l < 12; l++) {
            List<String> pairs = new ArrayList<>(List.of(PAIRS));
            pairs.remove("0 1");
            pairs.add(l, "0 1");
            int direct = 1 << l;
            int round = 1 << pairs.indexOf("0 2") | 1 << pairs.indexOf("1 2");
            leasts(roundabout(pairs, 2), 0, 2, direct);
            leasts(roundabout(pairs, 3), 0, 3, Math.min(direct, round));
            leasts(roundabout(pairs, 4), 0, 3, round);
            leasts(roundabout(pairs, 4), 1, 6, round);
        }
    }

    private static MapDuty roundabout(List<String> pairs, int worth) {
        StringBuilder text = new StringBuilder("n8;");
        for (String pair : pairs) {
            text.append("l" + pair + switch (pair) {
                case "0 1" -> " 1 " + worth;
                case "0 2" -> " 1 1";
                case "1 2" -> " 1 2";
                default -> " 0 50";
            } + ";");
        }
        MapDuty x = Due.surveyed(text.toString());
        x.journey(1, 0);
        return x;
    }

    private static void fits(MapDuty x, int e, int many, int inAll, int next) {
        DUE.is("lands(" + e + ", 0)", x.lands(e, 0), many);
        DUE.is("lands(" + e + ", 1)", x.lands(e, 1), inAll);
        DUE.is("lands(" + e + ", 2)", x.lands(e, 2), next);
    }

    /** "if each MAP is WRONG in e LINES at most (0 .. 12)". */
    private static void landsByErrors() {
        MapDuty x = Due.surveyed(lines(12, 1, 1) + "m0 63 63;");
        int[] chosen = {1, 12, 66, 220, 495, 792, 924, 792, 495, 220, 66, 12, 1};
        int many = 0;
        for (int e = 0; e <= 12; e++) {
            many += chosen[e];
            fits(x, e, many, e == 0 ? 4095 : 0, e == 0 ? Due.NONE : 0);
        }
        DUE.is("e -1", x.lands(-1, 0), Due.OUTSIDE);
        DUE.is("e 13", x.lands(13, 0), Due.OUTSIDE);
        fits(Due.surveyed(lines(12, 0, 0)), 0, 4096, 0, 0);
        fits(Due.surveyed("n2;m0 0 0;"), 12, 1, 0, Due.NONE);
        fits(new MapDuty(), 12, 1, 0, Due.NONE);
        // what the land is now is no matter
        x.move(3, false);
        fits(x, 0, 1, 4095, Due.NONE);
    }

    /**
     * "NONE: there is no such SET": two maps that are unlike in n lines need (n + 1) / 2 = e errors, and by so many the
     * sets that fit are e out of 2 e choices, halved by each of the n lines.
     */
    private static void landsWhereThereAreNone() {
        int[] choices = {1, 2, 6, 20, 70, 252, 924};
        for (int unlike = 1; unlike <= 12; unlike++) {
            int set = (1 << unlike) - 1;
            MapDuty x = Due.surveyed(lines(12, 1, 1) + "m0 0 0;m0 " + (set & 63) + " " + (set >> 6) + ";");
            int needed = (unlike + 1) / 2;
            fits(x, needed - 1, 0, Due.NONE, Due.NONE);
            fits(x, needed, choices[needed], 0, 0);
        }
        MapDuty y = Due.surveyed("n3;l0 1 1 1;l1 2 1 1;m0 0 0;m0 3 0;");
        fits(y, 0, 0, Due.NONE, Due.NONE);
        fits(y, 1, 2, 0, 0);
        fits(y, 2, 4, 0, 0);
    }

    /** "the greatest part that is alike is least; of like ones the least". */
    private static void lineToWalkOfLikeOnes() {
        // maps 000 and 100: by one error 000 and 100 fit, and line 2 alone parts them
        MapDuty x = Due.surveyed("n4;l0 1 1 1;l1 2 1 1;l2 3 1 1;m0 0 0;m0 4 0;");
        fits(x, 1, 2, 0, 2);
        // 000, 001, 010, 100, 101, 110: line 2 parts them 3 to 3, lines 0 and 1 part them 4 to 2
        fits(x, 2, 6, 0, 2);
        fits(x, 3, 8, 0, 0);
        // maps 000 and 110: 010 and 100 fit, and lines 1 and 2 part them alike
        x.draw(1, 1, true);
        fits(x, 1, 2, 0, 1);
        // maps 001 and 111: line 0 is in all
        x.draw(0, 0, true);
        x.draw(1, 0, true);
        fits(x, 1, 2, 1, 1);
        // maps 011, 101 and 110: by one error 111 alone fits, by two 000 and the maps, too: each line parts them 3 to 2
        x = Due.surveyed("n4;l0 1 1 1;l1 2 1 1;l2 3 1 1;m0 3 0;m0 5 0;m0 6 0;");
        fits(x, 1, 1, 7, Due.NONE);
        fits(x, 2, 5, 0, 0);
    }

    /** "NONE: none parts them": one set alone fits. */
    private static void lineToWalkWhereNonePartsThem() {
        MapDuty x = Due.surveyed("n3;l0 1 0 1;l1 2 1 1;m0 1 0;");
        fits(x, 0, 1, 1, Due.NONE);
        fits(x, 1, 3, 0, 0);
        x.draw(0, 0, false);
        fits(x, 0, 1, 0, Due.NONE);
    }

    private static void finds() {
        MapDuty x = Due.surveyed(lines(12, 0, 1) + "m0 63 63;m0 0 0;i1;i12;");
        DUE.is("the shortest chain", x.finds(0, 0), 10);
        DUE.is("the longest chain", x.finds(1, 0), 120);
        DUE.is("nothing is shown", x.finds(1, 1), 0);
        x.move(0, true);
        DUE.is("the first is true", x.finds(0, 0), 0);
        DUE.is("the others are not", x.finds(1, 0), 110);
        DUE.is("nothing is fined", x.map(0, 3), 0);
    }

    private static void unlike() {
        MapDuty x = Due.surveyed(lines(12, 1, 1) + "m0 63 63;m0 0 0;m0 1 32;");
        DUE.is("all", x.unlike(0, 1), 4095);
        DUE.is("all", x.unlike(1, 0), 4095);
        DUE.is("first and last", x.unlike(1, 2), 2049);
        DUE.is("all but those", x.unlike(2, 0), 4095 - 2049);
        x.copy(1, 0);
        DUE.is("none", x.unlike(1, 0), 0);
    }

    /** "LINES that are TRUE without which two PLACES, that have a WAY now, have none". */
    private static void bridges() {
        MapDuty x = Due.surveyed(ROW);
        DUE.is("all of a row", x.told(9), 127);
        x.move(3, false);
        DUE.is("not what is not true", x.told(9), 127 - 8);
        DUE.is("none of nothing", Due.surveyed("n2;l0 1 0 1;").told(9), 0);
        DUE.is("no lines", Due.surveyed("n2;").told(9), 0);
        MapDuty y = Due.surveyed("n4;l0 1 1 1;l1 2 1 1;l2 0 1 1;l2 3 1 1;");
        DUE.is("a ring and a tail", y.told(9), 8);
        y.move(0, false);
        DUE.is("the ring is open", y.told(9), 14);
    }

    /** "PLACES to which there is no WAY from a PLACE by THE LAND": never the place itself. */
    private static void cutOff() {
        MapDuty x = Due.surveyed(ROW);
        for (int a = 0; a < 8; a++) {
            DUE.is("none from " + a, x.cutOff(a), 0);
        }
        x.move(3, false);
        for (int a = 0; a < 8; a++) {
            DUE.is("the other half from " + a, x.cutOff(a), a < 4 ? 240 : 15);
        }
        MapDuty y = Due.surveyed("n8;");
        for (int a = 0; a < 8; a++) {
            DUE.is("all others from " + a, y.cutOff(a), 255 - (1 << a));
        }
        DUE.is("of two", Due.surveyed("n2;l0 1 0 1;m0 1 0;").cutOff(1), 1);
        DUE.is("a place too many", Due.surveyed("n2;").cutOff(2), Due.UNKNOWN);
    }

    /** "POOREST: the MAP with least DUTY; of like ones the least; NONE." */
    private static void poorest() {
        DUE.is("no maps", Due.surveyed("n2;l0 1 1 1;").told(10), Due.NONE);
        DUE.is("one", Due.surveyed("n2;l0 1 1 50;m1 1 0;").told(10), 0);
        DUE.is("no lines", Due.surveyed("n2;m1 0 0;m0 0 0;").told(10), 0);
        MapDuty x = Due.surveyed("n2;l0 1 1 5;m1 1 0;m0 1 0;m0 1 0;m2 1 0;m2 1 0;");
        DUE.is("of like ones", x.told(10), 3);
        x.draw(4, 0, false);
        DUE.is("the last", x.told(10), 4);
        x.move(0, false);
        DUE.is("all alike", x.told(10), 0);
    }

    /** "RIGHTEST: the MAP that is RIGHT in most LINES; of like ones the least; NONE." */
    private static void rightest() {
        DUE.is("no maps", Due.surveyed("n2;l0 1 1 1;").told(11), Due.NONE);
        DUE.is("one that is wrong in all", Due.surveyed("n2;l0 1 1 1;m0 0 0;").told(11), 0);
        DUE.is("no lines", Due.surveyed("n2;m0 0 0;m0 0 0;").told(11), 0);
        MapDuty x = Due.surveyed("n3;l0 1 1 5;l1 2 1 5;m0 0 0;m0 1 0;m0 2 0;m0 0 0;m0 0 0;");
        DUE.is("of like ones", x.told(11), 1);
        x.draw(2, 0, true);
        DUE.is("one more", x.told(11), 2);
        x.draw(4, 0, true);
        x.draw(4, 1, true);
        DUE.is("of like ones", x.told(11), 2);
        x.move(0, false);
        x.move(1, false);
        DUE.is("right in what is not", x.told(11), 0);
    }

    /** "RIGHT in just k LINES (0 .. 12): how many; in k or more: how many". */
    private static void atRandomOfEachNumberOfLines() {
        int[] just = new int[13];
        just[0] = 1;
        for (int many = 0; many <= 12; many++) {
            MapDuty x = Due.surveyed(lines(many, many % 2, 1));
            int more = 1 << many;
            for (int k = 0; k <= 12; k++) {
                DUE.is("just " + k + " of " + many, x.atRandom(k, 0), just[k]);
                DUE.is(k + " or more of " + many, x.atRandom(k, 1), more);
                more -= just[k];
            }
            DUE.is("k -1", x.atRandom(-1, 0), Due.OUTSIDE);
            DUE.is("k 13", x.atRandom(13, 0), Due.OUTSIDE);
            DUE.is("k -1", x.atRandom(-1, 1), Due.OUTSIDE);
            DUE.is("k 13", x.atRandom(13, 1), Due.OUTSIDE);
            for (int k = 12; k > 0; k--) {
                just[k] += just[k - 1];
            }
        }
    }

    /** "DUTY by KIND 0 of all SETS together, / how many there are" (cut); "k is no matter". */
    private static void atRandomDuty() {
        DUE.is("no lines", Due.surveyed("n2;").atRandom(0, 2), 0);
        DUE.is("no survey", new MapDuty().atRandom(0, 2), 0);
        // 0 and 1 of two sets: 1 / 2
        DUE.is("worth 1", Due.surveyed("n2;l0 1 1 1;").atRandom(0, 2), 0);
        DUE.is("worth 2", Due.surveyed("n2;l0 1 1 2;").atRandom(0, 2), 1);
        DUE.is("worth 3", Due.surveyed("n2;l0 1 1 3;").atRandom(0, 2), 1);
        // 0, 1, 1 and 2 of four sets: it is cut once, at the end
        DUE.is("worth 1 and 1", Due.surveyed("n3;l0 1 1 1;l1 2 1 1;").atRandom(0, 2), 1);
        DUE.is("worth 1 and not true", Due.surveyed("n3;l0 1 1 1;l1 2 0 50;").atRandom(0, 2), 0);
        MapDuty x = Due.surveyed(lines(12, 1, 50));
        DUE.is("the most", x.atRandom(0, 2), 300);
        DUE.is("12", x.atRandom(12, 2), 300);
        DUE.is("13 is no matter", x.atRandom(13, 2), 300);
        DUE.is("-1 is no matter", x.atRandom(-1, 2), 300);
        DUE.is("nor the least", x.atRandom(Integer.MIN_VALUE, 2), 300);
        DUE.is("what 3", x.atRandom(0, 3), Due.OUTSIDE);
    }

    /** "LOST: pairs of PLACES (the lesser first) with a WAY by THE LAND, none by a MAP". */
    private static void lost() {
        MapDuty x = Due.surveyed(ROW + "m0 0 0;");
        DUE.is("none", x.map(0, 5), 0);
        DUE.is("all pairs of eight", x.map(1, 5), 28);
        x.draw(0, 0, false);
        DUE.is("0 with all others", x.map(0, 5), 7);
        x.move(0, false);
        DUE.is("that nobody can go", x.map(0, 5), 0);
        DUE.is("all pairs of seven", x.map(1, 5), 21);
        DUE.is("no lines", Due.surveyed("n8;m0 0 0;").map(0, 5), 0);
    }

    /** "3 times the pairs .. on which one does not FALL, less those with one on which one does (0 at least)". */
    private static void price0AtLeast() {
        DUE.is("no way", Due.surveyed("n2;l0 1 1 1;m0 0 0;").map(0, 6), 0);
        DUE.is("one holds", Due.surveyed("n2;l0 1 1 1;m0 1 0;").map(0, 6), 3);
        DUE.is("one falls: 0, not -1", Due.surveyed("n2;l0 1 0 1;m0 1 0;").map(0, 6), 0);
        // of 0-1, 1-2, 0-2 one holds: 3 - 2
        DUE.is("one holds, two fall", Due.surveyed("n3;l0 1 1 1;l1 2 0 1;m0 3 0;").map(0, 6), 1);
        // of the star's 0-1, 0-2, 0-3, 1-2, 1-3, 2-3 one holds: 3 - 5
        DUE.is("one holds, five fall", Due.surveyed("n4;l0 1 1 1;l0 2 0 1;l0 3 0 1;m0 7 0;").map(0, 6), 0);
        // one holds at 3-4, three fall at 0-1, 1-2, 0-2: 3 - 3
        DUE.is("one holds, three fall", Due.surveyed("n5;l0 1 0 1;l1 2 0 1;l3 4 1 1;m0 7 0;").map(0, 6), 0);
        // and a fourth one at 5-6: 3 - 4
        DUE.is("one holds, four fall", Due.surveyed("n7;l0 1 0 1;l1 2 0 1;l3 4 1 1;l5 6 0 1;m0 15 0;").map(0, 6), 0);
        DUE.is("the pairs of a row of eight", Due.surveyed(ROW).map(0, 6), 84);
    }

    /** "odds of n quiet years (0 .. 60), each by q of a hundred (0 .. 100): a BILLION times q / 100 each (cut)". */
    private static void quietYears() {
        MapDuty x = new MapDuty();
        for (int q = 0; q <= 100; q++) {
            long odds = 1000000000;
            MapDuty y = new MapDuty();
            for (int n = 0; n <= 60; n++) {
                DUE.is("quiet(" + n + ", " + q + ")", y.quiet(n, q), (int) odds);
                odds = odds * q / 100;
            }
        }
        DUE.is("0 years by 0", x.quiet(0, 0), 1000000000);
        DUE.is("1 year by 0", x.quiet(1, 0), 0);
        DUE.is("60 years by 100", x.quiet(60, 100), 1000000000);
        DUE.is("1 year by 99", x.quiet(1, 99), 990000000);
        DUE.is("1 year by 1", x.quiet(1, 1), 10000000);
        DUE.is("4 years by 1", x.quiet(4, 1), 10);
        DUE.is("5 years by 1", x.quiet(5, 1), 0);
        // 970299000, 960596010, 950990049 (of .9), 941480148 (of .51), 932065346 (of .52); cut at the end alone: 932065347
        DUE.is("5 years by 99", x.quiet(5, 99), 950990049);
        DUE.is("6 years by 99", x.quiet(6, 99), 941480148);
        DUE.is("7 years by 99", x.quiet(7, 99), 932065346);
        DUE.is("n -1", x.quiet(-1, 100), Due.OUTSIDE);
        DUE.is("n 61", x.quiet(61, 100), Due.OUTSIDE);
        DUE.is("q -1", x.quiet(60, -1), Due.OUTSIDE);
        DUE.is("q 101", x.quiet(60, 101), Due.OUTSIDE);
    }

    /** "JOURNEYS (4 at most)"; promise 25: "how many there are", "FULL (4)". */
    private static void fourJourneys() {
        MapDuty x = Due.surveyed("n8;l0 7 1 9;");
        for (int n = 1; n <= 4; n++) {
            DUE.is("journey " + n, x.journey(n % 2 == 0 ? 0 : 7, n % 2 == 0 ? 7 : 0), n);
            DUE.is("journeys", x.told(12), n);
            leasts(x, 0, 9, 1);
        }
        DUE.is("a fifth", x.journey(0, 1), Due.FULL);
        DUE.is("journeys", x.told(12), 4);
        leasts(x, 0, 9, 1);
        x.tear();
        DUE.is("the first again", x.journey(0, 1), 1);
        leasts(x, 0, Due.NONE, Due.NONE);
        x.tear();
        x.journey(0, 7);
        x.journey(7, 0);
        x.journey(0, 7);
        DUE.is("the fourth counts", x.journey(6, 7), 4);
        leasts(x, 0, Due.NONE, Due.NONE);
    }

    /** "THE BOOK (15 at most)"; promise 26: "how many", "FULL (15)". */
    private static void fifteenEntries() {
        MapDuty x = Due.surveyed("n2;m0 0 0;m0 0 0;");
        for (int n = 1; n <= 15; n++) {
            DUE.is("entry " + n, x.write(n % 2, n == 15 ? 1 : 0), n);
            DUE.is("entries", x.told(13), n);
            DUE.is("wrong", x.judge(), n == 15 ? 14 : Due.NONE);
        }
        DUE.is("a sixteenth", x.write(0, 1), Due.FULL);
        DUE.is("entries", x.told(13), 15);
        DUE.is("wrong", x.judge(), 14);
        x.tear();
        DUE.is("the first again", x.write(0, 0), 1);
        DUE.is("wrong", x.judge(), Due.NONE);
    }

    /** Promise 26: "(0 .. 99999)". */
    private static void entriesOf0To99999() {
        MapDuty x = Due.surveyed(lines(12, 1, 50) + "m1 63 63;");
        DUE.is("-1", x.write(0, -1), Due.OUTSIDE);
        DUE.is("100000", x.write(0, 100000), Due.OUTSIDE);
        DUE.is("99999", x.write(0, 99999), 1);
        DUE.is("it owes 0", x.judge(), 0);
        x.day(60);
        DUE.is("it owes 72000", x.judge(), 0);
        x.day(24);
        DUE.is("it owes 99999", x.judge(), Due.NONE);
        DUE.is("0", x.write(0, 0), 2);
        DUE.is("it owes 99999", x.judge(), 1);
        x.assess(0);
        DUE.is("it owes 0", x.judge(), 0);
    }

    /** "WRONG: the first that is otherwise now; NONE." */
    private static void firstWrongEntry() {
        MapDuty x = Due.surveyed("n2;l0 1 1 4;m0 1 0;m3 1 0;");
        DUE.is("an empty book", x.judge(), Due.NONE);
        x.write(0, 0);
        x.write(1, 0);
        x.write(1, 1);
        x.write(0, 4);
        DUE.is("the third", x.judge(), 2);
        x.day(1);
        DUE.is("the first", x.judge(), 0);
        x.assess(0);
        DUE.is("the second", x.judge(), 1);
        x.undo();
        x.undo();
        DUE.is("as it was", x.judge(), 2);
        DUE.is("no survey", new MapDuty().judge(), Due.NONE);
    }

    /** Promise 27: "how much both had": none, the most of both. */
    private static void tearCountsBoth() {
        DUE.is("a full book", States.fullBook().tear(), 19);
        MapDuty x = Due.surveyed("n2;m0 0 0;");
        DUE.is("none", x.tear(), 0);
        x.journey(0, 1);
        DUE.is("a journey", x.tear(), 1);
        x.write(0, 0);
        DUE.is("an entry", x.tear(), 1);
        DUE.is("none", x.tear(), 0);
        DUE.is("no survey", new MapDuty().tear(), 0);
    }

    /** "TRIED from now; nothing changes by it." */
    private static void nothingChangesByTrying() {
        Twins busy = new Twins(DUE, "busy", States::busy);
        MapDuty y = States.busy();
        for (int number = 0; number < 3; number++) {
            int what = number;
            busy.unchanged("way", x -> x.way(3, 0, 4, what), y.way(3, 0, 4, what));
            busy.unchanged("way by the land", x -> x.way(-1, 2, 3, what), y.way(-1, 2, 3, what));
            busy.unchanged("lands", x -> x.lands(3, what), y.lands(3, what));
            busy.unchanged("atRandom", x -> x.atRandom(2, what), y.atRandom(2, what));
            busy.unchanged("cutOff", x -> x.cutOff(what), y.cutOff(what));
            busy.unchanged("unlike", x -> x.unlike(what, 4), y.unlike(what, 4));
        }
        for (int number = 0; number < 5; number++) {
            int n = number;
            busy.unchanged("least", x -> x.least(n, 0), y.least(n, 0));
            busy.unchanged("finds", x -> x.finds(1, n), y.finds(1, n));
        }
        for (int number = 0; number < 15; number++) {
            int what = number;
            busy.unchanged("told", x -> x.told(what), y.told(what));
            busy.unchanged("line", x -> x.line(3, what % 5), y.line(3, what % 5));
            busy.unchanged("map", x -> x.map(3, what % 7), y.map(3, what % 7));
        }
        busy.unchanged("quiet", x -> x.quiet(3, 50), 125000000);
        busy.unchanged("judge", x -> x.judge(), y.judge());
        busy.unchanged("fault", x -> x.fault(), 3);
    }
}
