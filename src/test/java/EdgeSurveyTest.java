/** Section 1, and promises 1 to 4: the bounds of the text, of each clause and number, each fault and its letter. */
public final class EdgeSurveyTest {
    private static final Due DUE = new Due();
    /** Pairs of eight places, no two alike: enough for a thirteenth line. */
    private static final String[] PAIRS = {"0 1", "0 2", "0 3", "0 4", "0 5", "0 6", "0 7", "1 2", "1 3", "1 4", "1 5", "1 6", "1 7"};

    public static void main(String[] args) {
        text240LettersAtMost();
        lettersAre0To255();
        aTextIsEmptyBehindASurvey();
        anEmptyTextIsNoSurvey();
        firstWordIsN();
        words();
        nOnce();
        places2To8();
        lines12AtMost();
        placesOfLines();
        linesBetweenUnlikePlaces();
        noTwoLinesBetweenTheSame();
        trueIs1Or0();
        duty0To50();
        maps5AtMost();
        mapsBehindAllLines();
        kind0To4();
        shows0To63();
        bitsOfLinesThatThereAre();
        inspectors4AtMost();
        chain1To12();
        numbersOfOneToThreeFigures();
        figures();
        blanksAnywhereButWithinNumbers();
        twoNumbersNeedABlank();
        onlySignOfAnEnd();
        theEndIsAtTheTextsLength();
        theEndIsNotInTheOldText();
        theFirstLetterThatHasAFault();
        ofTheseTheLeast();
        faultOfTheLatestSurvey();
        aFaultLeavesAllElse();
        aSurveyBeginsAnew();
        DUE.end();
    }

    private static MapDuty holds(String text, int lines) {
        return DUE.reads(text, lines, Due.NONE);
    }

    private static void faulty(String text, int number, int letter) {
        DUE.reads(text, -10 - number, letter);
    }

    private static String lines(int many) {
        StringBuilder text = new StringBuilder("n8;");
        for (int l = 0; l < many; l++) {
            text.append("l" + PAIRS[l] + " 1 1;");
        }
        return text.toString();
    }

    /** "THE SURVEY is told in a text (240 letters at most)"; promise 2: "how many it has", "FULL (240)". */
    private static void text240LettersAtMost() {
        MapDuty x = new MapDuty();
        String text = "n2;" + " ".repeat(233) + "i12;";
        for (int n = 1; n <= 239; n++) {
            DUE.is("the " + n + "th letter", x.feed(text.charAt(n - 1)), n);
        }
        DUE.is("the 240th letter", x.feed(text.charAt(239)), 240);
        DUE.is("letters", x.told(4), 240);
        DUE.is("the 241st letter", x.feed('x'), Due.FULL);
        DUE.is("letters", x.told(4), 240);
        DUE.is("the 240th is read, the 241st is not there", x.survey(), 0);
        DUE.is("no fault", x.fault(), Due.NONE);
        DUE.is("the last clause counts", x.told(3), 1);
        DUE.is("its last letter counts", DUE.reads(text.substring(0, 239), -11, 239).told(3), 0);
        faulty("n2;" + " ".repeat(234) + "i12", 1, 240);
        faulty("n2;" + " ".repeat(236) + "x", 1, 239);
        faulty("n2;" + " ".repeat(236) + "l", 1, 240);
        faulty("n2;" + " ".repeat(236) + "n", 3, 239);
        faulty("n2;" + " ".repeat(235) + "i0", 2, 239);
        faulty("n" + "0".repeat(239), 2, 1);
    }

    /** Promise 2: "One letter (a number 0 .. 255)". */
    private static void lettersAre0To255() {
        MapDuty x = new MapDuty();
        DUE.is("-1", x.feed(-1), Due.OUTSIDE);
        DUE.is("0", x.feed(0), 1);
        DUE.is("255", x.feed(255), 2);
        DUE.is("256", x.feed(256), Due.OUTSIDE);
        DUE.is("n, if eight bits alone are looked at", x.feed(256 + 'n'), Due.OUTSIDE);
        DUE.is("letters", x.told(4), 2);
        for (int c = 0; c <= 255; c++) {
            MapDuty y = new MapDuty();
            DUE.is("feed(" + c + ")", y.feed(c), 1);
        }
    }

    /** Promise 3: "THE TEXT (it is empty then, with a FAULT, too)". */
    private static void aTextIsEmptyBehindASurvey() {
        MapDuty x = holds("n2;i1;", 0);
        DUE.is("empty behind a survey", x.told(4), 0);
        DUE.is("the first letter again", x.feed('n'), 1);
        x = DUE.reads("n2;i1;x", -11, 6);
        DUE.is("empty behind a fault", x.told(4), 0);
        Due.feed(x, "n3;");
        DUE.is("nothing of the old text is read", x.survey(), 0);
        DUE.is("places", x.told(0), 3);
        DUE.is("inspectors", x.told(3), 0);
        x = DUE.reads("", 0, Due.NONE);
        DUE.is("empty behind an empty one", x.told(4), 0);
    }

    /** "An empty text (or one of blanks alone): no SURVEY." */
    private static void anEmptyTextIsNoSurvey() {
        for (int blanks : new int[] {0, 1, 2, 239, 240}) {
            MapDuty x = Due.surveyed(Due.FIVE);
            x.keep(0);
            x.day(1);
            x.journey(0, 1);
            x.write(0, 0);
            x.seed(4);
            Due.feed(x, " ".repeat(blanks));
            DUE.is(blanks + " blanks", x.survey(), 0);
            DUE.is("no fault", x.fault(), Due.NONE);
            for (int what = 0; what <= 14; what++) {
                DUE.is(blanks + " blanks: told " + what, x.told(what), what == 10 || what == 11 ? Due.NONE : 0);
            }
            DUE.is("no day", x.day(1), Due.NOT);
            DUE.is("no drift", x.drift(1), Due.NOT);
            DUE.is("no image", x.goBack(0), Due.NOT);
            DUE.is("nothing to undo", x.undo(), Due.NOT);
            DUE.is("the seed stays", x.seed(0), 4);
        }
        DUE.is("n2; is one", holds("n2;", 0).day(1), 0);
    }

    /** Fault 1: "another word first than 'n'": each letter at the text's beginning. */
    private static void firstWordIsN() {
        for (int c = 0; c <= 255; c++) {
            String letter = String.valueOf((char) c);
            if (c == ' ') {
                holds(letter, 0);
            } else if (c == 'n') {
                faulty(letter, 1, 1);
            } else {
                faulty(letter, 1, 0);
                faulty("  " + letter + "2;", 1, 2);
            }
        }
        faulty("l0 1 1 1;", 1, 0);
        faulty("m0 0 0;", 1, 0);
        faulty("i1;", 1, 0);
    }

    /** Fault 1: "a letter that is no word": each letter where a clause can begin. */
    private static void words() {
        for (int c = 0; c <= 255; c++) {
            String text = "n2;" + (char) c;
            if (c == ' ') {
                holds(text, 0);
            } else if (c == 'n') {
                faulty(text, 3, 3);
            } else if (c == 'l' || c == 'm' || c == 'i') {
                faulty(text, 1, 4);
            } else {
                faulty(text, 1, 3);
                faulty("n2;l0 1 1 1;" + (char) c + "0 0 0;", 1, 12);
            }
        }
    }

    /** "'n' .. first, once"; fault 3: "'n' again .. (at it)". */
    private static void nOnce() {
        faulty("n2;n2;", 3, 3);
        faulty("n2;n9;", 3, 3);
        faulty("n2;nn", 3, 3);
        faulty("n2;n", 3, 3);
        faulty("n2;l0 1 1 1;n", 3, 12);
        faulty("n2;l0 1 1 1;m0 0 0;n2;", 3, 19);
        faulty("n2;i1; n2;", 3, 7);
        // a number is due there
        faulty("nn2;", 1, 1);
        faulty("n2;in", 1, 4);
    }

    /** "N 2 .. 8". */
    private static void places2To8() {
        for (int n = 0; n <= 999; n++) {
            if (n >= 2 && n <= 8) {
                DUE.is("places", holds("n" + n + ";", 0).told(0), n);
            } else {
                faulty("n" + n + ";", 2, 1);
            }
        }
        faulty("n 9", 2, 2);
    }

    /** "12 LINES at most"; fault 3: "a 13th 'l'". */
    private static void lines12AtMost() {
        for (int many = 0; many <= 12; many++) {
            MapDuty x = holds(lines(many), many);
            DUE.is("lines", x.told(1), many);
            DUE.is("the land", x.told(6), (1 << many) - 1);
            DUE.is("the last", x.line(many - 1, 3), many == 0 ? Due.UNKNOWN : 1);
            DUE.is("behind it", x.line(many, 3), Due.UNKNOWN);
        }
        faulty(lines(13), 3, 111);
        faulty(lines(12) + "l", 3, 111);
        faulty(lines(12) + " l9 9 9 99;", 3, 112);
        faulty(lines(12) + "i1;l", 3, 114);
    }

    /** "PLACES 0 .. N less 1"; fault 2: "a PLACE that there is not". */
    private static void placesOfLines() {
        for (int n = 2; n <= 8; n++) {
            int last = n - 1;
            MapDuty x = holds("n" + n + ";l" + last + " 0 1 1;", 1);
            DUE.is("from the last", x.line(0, 0), last);
            DUE.is("to 0", x.line(0, 1), 0);
            x = holds("n" + n + ";l0 " + last + " 1 1;", 1);
            DUE.is("from 0", x.line(0, 0), 0);
            DUE.is("to the last", x.line(0, 1), last);
            faulty("n" + n + ";l" + n + " 0 1 1;", 2, 4);
            faulty("n" + n + ";l0 " + n + " 1 1;", 2, 6);
            faulty("n" + n + ";l" + n + " " + n + " 1 1;", 2, 4);
            faulty("n" + n + ";l999 0 1 1;", 2, 4);
            faulty("n" + n + ";l0 999 1 1;", 2, 6);
        }
    }

    /** "between unlike PLACES"; fault 4: "B like A .. (at the B)". */
    private static void linesBetweenUnlikePlaces() {
        for (int a = 0; a < 8; a++) {
            faulty("n8;l" + a + " " + a + " 1 1;", 4, 6);
            faulty("n8;l" + a + "   00" + a + " 9", 4, 8);
            holds("n8;l" + a + " " + (a + 1) % 8 + " 1 1;", 1);
        }
        faulty("n8;l0 0", 4, 6);
    }

    /** "no two between the same"; fault 4: "both have a LINE already (at the B)". */
    private static void noTwoLinesBetweenTheSame() {
        faulty("n8;l0 7 1 1;l0 7 1 1;", 4, 15);
        faulty("n8;l0 7 1 1;l7 0 1 1;", 4, 15);
        faulty("n8;l0 7 0 0;l7 000", 4, 15);
        faulty(lines(11) + "l0 1 1 1;", 4, 105);
        faulty(lines(11) + "l5 1 1 1;", 4, 105);
        holds("n3;l0 1 1 1;l0 2 1 1;l1 2 1 1;", 3);
        holds("n3;l0 1 1 1;l2 0 1 1;l2 1 1 1;", 3);
    }

    /** "T 1 it is TRUE, 0 not". */
    private static void trueIs1Or0() {
        DUE.is("not true", holds("n2;l0 1 0 1;", 1).told(6), 0);
        DUE.is("true", holds("n2;l0 1 1 1;", 1).told(6), 1);
        DUE.is("true", holds("n2;l0 1 001 1;", 1).told(6), 1);
        faulty("n2;l0 1 2 1;", 2, 8);
        faulty("n2;l0 1 10 1;", 2, 8);
        faulty("n2;l0 1 999 1;", 2, 8);
    }

    /** "DUTY D, 0 .. 50". */
    private static void duty0To50() {
        for (int d = 0; d <= 100; d++) {
            if (d <= 50) {
                DUE.is("duty", holds("n2;l0 1 1 " + d + ";", 1).line(0, 3), d);
            } else {
                faulty("n2;l0 1 1 " + d + ";", 2, 10);
            }
        }
        faulty("n2;l0 1 1 999;", 2, 10);
    }

    /** "5 MAPS at most"; fault 3: "a sixth 'm'". */
    private static void maps5AtMost() {
        for (int many = 0; many <= 5; many++) {
            MapDuty x = holds("n2;" + "m4 0 0;".repeat(many), 0);
            DUE.is("maps", x.told(2), many);
            DUE.is("the last", x.map(many - 1, 0), many == 0 ? Due.UNKNOWN : 4);
            DUE.is("behind it", x.map(many, 0), Due.UNKNOWN);
        }
        faulty("n2;" + "m4 0 0;".repeat(6), 3, 38);
        faulty("n2;" + "m4 0 0;".repeat(5) + "m", 3, 38);
        faulty("n2;" + "m4 0 0;".repeat(5) + "i1; m9", 3, 42);
    }

    /** "behind all LINES"; fault 1: "'l' behind an 'm'". */
    private static void mapsBehindAllLines() {
        faulty("n2;m0 0 0;l0 1 1 1;", 1, 10);
        faulty("n2;m0 0 0;i1; l", 1, 14);
        holds("n2;i1;l0 1 1 1;i1;m0 1 0;i1;m0 1 0;i1;", 1);
    }

    /** "KIND K, 0 .. 4". */
    private static void kind0To4() {
        for (int k = 0; k <= 4; k++) {
            DUE.is("kind", holds("n2;m" + k + " 0 0;", 0).map(0, 0), k);
        }
        faulty("n2;m5 0 0;", 2, 4);
        faulty("n2;m10 0 0;", 2, 4);
        faulty("n2;m999 0 0;", 2, 4);
    }

    /** "SHOWS LINES 0 to 5 as the bits of P, LINES 6 to 11 as the bits of Q, 0 .. 63 each". */
    private static void shows0To63() {
        for (int n = 0; n <= 63; n++) {
            DUE.is("P", holds(lines(12) + "m0 " + n + " 0;", 12).map(0, 1), n);
            DUE.is("Q", holds(lines(12) + "m0 0 " + n + ";", 12).map(0, 1), n * 64);
        }
        DUE.is("all", holds(lines(12) + "m0 63 63;", 12).map(0, 1), 4095);
        for (int n : new int[] {64, 65, 127, 128, 999}) {
            faulty(lines(12) + "m0 " + n + " 0;", 2, 114);
            faulty(lines(12) + "m0 0 " + n + ";", 2, 116);
        }
    }

    /** Fault 2: "bits of LINES that there are not (at its first)". */
    private static void bitsOfLinesThatThereAre() {
        for (int many = 0; many < 12; many++) {
            String text = lines(many);
            int all = (1 << many) - 1;
            int at = text.length() + 3;
            String shows = (all & 63) + " " + (all >> 6);
            DUE.is("all", holds(text + "m0 " + shows + ";", many).map(0, 1), all);
            int next = 1 << many;
            if (many < 6) {
                faulty(text + "m0 " + next + " 0;", 2, at);
                faulty(text + "m0 " + (all | next) + " 0;", 2, at);
                faulty(text + "m0 63 63;", 2, at);
                faulty(text + "m0 0 1;", 2, at + 2);
                faulty(text + "m0 0 32;", 2, at + 2);
            } else {
                faulty(text + "m0 0 " + (next >> 6) + ";", 2, at + 2);
                faulty(text + "m0 63 " + ((all | next) >> 6) + ";", 2, at + 3);
                faulty(text + "m0 0 63;", 2, at + 2);
            }
        }
    }

    /** "4 INSPECTORS at most"; fault 3: "a fifth 'i'". */
    private static void inspectors4AtMost() {
        for (int many = 0; many <= 4; many++) {
            MapDuty x = holds("n2;" + "i1;".repeat(many) + "m0 0 0;", 0);
            DUE.is("inspectors", x.told(3), many);
            DUE.is("the last", x.finds(many - 1, 0), many == 0 ? Due.UNKNOWN : 0);
            DUE.is("behind it", x.finds(many, 0), Due.UNKNOWN);
        }
        faulty("n2;" + "i1;".repeat(5), 3, 15);
        faulty("n2;" + "i1;".repeat(4) + "i", 3, 15);
        faulty("n2;i1;i1;l0 1 1 1;i1;i1;m0 0 0;i0", 3, 31);
    }

    /** "CHAIN C, 1 .. 12". */
    private static void chain1To12() {
        for (int c = 0; c <= 99; c++) {
            if (c >= 1 && c <= 12) {
                MapDuty x = holds(lines(12).replace(" 1 1;", " 0 1;") + "m0 63 63;i" + c + ";", 12);
                DUE.is("finds by a chain of " + c, x.finds(0, 0), 10 * c);
            } else {
                faulty("n2;i" + c + ";", 2, 4);
            }
        }
        faulty("n2;i999;", 2, 4);
    }

    /** "NUMBERS have one to three figures"; fault 2: "a NUMBER of four figures or more .. (at its first)". */
    private static void numbersOfOneToThreeFigures() {
        String[] forms = {"n%s;", "n5;l%s 1 1 1;", "n5;l0 %s 1 1;", "n5;l0 1 %s 1;", "n5;l0 1 1 %s;",
            "n5;l0 1 1 1;l1 2 1 1;m%s 1 0;", "n5;l0 1 1 1;l1 2 1 1;m1 %s 0;", "n5;l0 1 1 1;l1 2 1 1;m1 1 %s;", "n5;i%s;"};
        String[] numbers = {"2", "2", "2", "1", "1", "1", "3", "0", "1"};
        for (int n = 0; n < forms.length; n++) {
            String form = forms[n];
            int lines = form.split("l").length - 1;
            int at = form.indexOf('%');
            holds(String.format(form, numbers[n]), lines);
            holds(String.format(form, "0" + numbers[n]), lines);
            holds(String.format(form, "00" + numbers[n]), lines);
            faulty(String.format(form, "000" + numbers[n]), 2, at);
            faulty(String.format(form, "0000" + numbers[n]), 2, at);
            faulty(String.format(form, "1000" + numbers[n]), 2, at);
            // too many for an int, and one that an int would wrap around to a good one
            faulty(String.format(form, "9".repeat(60)), 2, at);
            faulty(String.format(form, String.valueOf((1L << 32) + Integer.parseInt(numbers[n]))), 2, at);
        }
    }

    /** Each letter where a NUMBER is due, and behind one. */
    private static void figures() {
        for (int c = 0; c <= 255; c++) {
            String ahead = "n2;i" + (char) c;
            String behind = "n2;i1" + (char) c;
            if (c >= '1' && c <= '9') {
                faulty(ahead, 1, 5);
                holds(ahead + ";", 0);
            } else if (c == '0') {
                faulty(ahead, 2, 4);
            } else {
                faulty(ahead, 1, c == ' ' ? 5 : 4);
            }
            if (c == ';') {
                holds(behind, 0);
            } else if (c >= '0' && c <= '9') {
                faulty(behind, c <= '2' ? 1 : 2, c <= '2' ? 6 : 4);
            } else {
                faulty(behind, 1, c == ' ' ? 6 : 5);
            }
        }
    }

    /** "blanks (32) may stand anywhere but within NUMBERS". */
    private static void blanksAnywhereButWithinNumbers() {
        String text = "n5;l0 1 1 10;m0 1 0;i12;";
        for (int at = 0; at <= text.length(); at++) {
            boolean within = text.startsWith("10;", at - 1) || text.startsWith("12;", at - 1);
            String wide = text.substring(0, at) + "  " + text.substring(at);
            if (within) {
                faulty(wide, 1, at + 2);
            } else {
                MapDuty x = holds(wide, 1);
                DUE.is("duty", x.line(0, 3), 10);
                DUE.is("inspectors", x.told(3), 1);
            }
            for (int c : new int[] {0, 9, 10, 13, 31, 33, 95, 160}) {
                faulty(text.substring(0, at) + (char) c + text.substring(at), 1, at);
            }
        }
    }

    /** "two NUMBERS side by side need one". */
    private static void twoNumbersNeedABlank() {
        faulty("n2;l01 1 1;", 4, 7);
        faulty("n2;l0 11 1;", 2, 6);
        faulty("n2;l0 1 11;", 2, 8);
        faulty("n2;l0 1 01;", 1, 10);
        faulty("n2;m00 0;", 1, 8);
        holds("n2;m0 0 0;", 0);
    }

    /** Each clause has its ';', and no NUMBER more. */
    private static void onlySignOfAnEnd() {
        faulty("n2 2;", 1, 3);
        faulty("n2;l0 1 1 1 1;", 1, 12);
        faulty("n2;m0 0 0 0;", 1, 10);
        faulty("n2;i1 1;", 1, 6);
        faulty("n2;;", 1, 3);
        faulty("n;", 1, 1);
        faulty("n2;l;", 1, 4);
        faulty("n2;l0;", 1, 5);
        faulty("n2;l0 1;", 1, 7);
        faulty("n2;l0 1 1;", 1, 9);
        faulty("n2;m;", 1, 4);
        faulty("n2;m0;", 1, 5);
        faulty("n2;m0 0;", 1, 7);
        faulty("n2;i;", 1, 4);
        faulty("n2i1;", 1, 2);
        faulty("n2;l0 1 1 1m0 0 0;", 1, 11);
    }

    /** "(the end at the text's length)": each beginning of a text without a fault. */
    private static void theEndIsAtTheTextsLength() {
        int clauses = 0;
        for (int length = 0; length <= Due.FIVE.length(); length++) {
            String text = Due.FIVE.substring(0, length);
            if (length == 0 || text.endsWith(";")) {
                clauses++;
                holds(text, Math.max(0, text.split("l").length - 1));
            } else {
                faulty(text, 1, length);
                faulty(text + "   ", 1, length + 3);
            }
        }
        DUE.is("clauses and the empty text", clauses, 15);
    }

    /** The letters of a longer text that was read before are no part of a shorter one. */
    private static void theEndIsNotInTheOldText() {
        for (int length = 1; length < Due.FIVE.length(); length++) {
            String text = Due.FIVE.substring(0, length);
            MapDuty x = Due.surveyed(Due.FIVE);
            Due.feed(x, text);
            int answer = x.survey();
            DUE.is("survey() of '" + text + "' behind all of it", answer < 0 ? answer : 0, text.endsWith(";") ? 0 : -11);
            DUE.is("fault() of '" + text + "' behind all of it", x.fault(), text.endsWith(";") ? Due.NONE : length);
        }
    }

    /** "FAULTS, at the first letter that has one". */
    private static void theFirstLetterThatHasAFault() {
        faulty("n9;x", 2, 1);
        faulty("n2x;l0 0 1 1;", 1, 2);
        faulty("n2;l0 0 2 51;", 4, 6);
        faulty("n2;l2 2 2 51;", 2, 4);
        faulty("n2;l0 1 2 51;", 2, 8);
        faulty("n2;l0 1 1 51;n", 2, 10);
        faulty("n2;l0 1 1 1;m5 64 64;", 2, 13);
        faulty("n2;l0 1 1 1;m4 64 64;", 2, 15);
        faulty("n2;l0 1 1 1;m4 1 64;", 2, 17);
        faulty("n2;n9;", 3, 3);
        faulty("n2;i0;n", 2, 4);
        faulty("n2;i1;i0", 2, 7);
    }

    /** "of these the least": a letter that has two faults. */
    private static void ofTheseTheLeast() {
        // 1 and 3: a thirteenth 'l' behind an 'm'
        faulty(lines(12) + "m0 0 0;l", 1, 118);
        // 1 and 3: 'n' again where no word can stand
        faulty("n2;ln", 1, 4);
        // 2 and 4: a B of four figures that is like A, or has a line with it already
        faulty("n2;l0 0000 1 1;", 2, 6);
        faulty("n2;l0 1 1 1;l1 0000 1 1;", 2, 15);
        faulty("n2;l0 1 1 1;l0 0001", 2, 15);
    }

    /** Promise 4: "The letter of the FAULT of the latest survey(); NONE." */
    private static void faultOfTheLatestSurvey() {
        MapDuty x = new MapDuty();
        DUE.is("no survey yet", x.fault(), Due.NONE);
        x.feed('x');
        DUE.is("nor by a letter", x.fault(), Due.NONE);
        DUE.is("x", x.survey(), -11);
        DUE.is("its letter", x.fault(), 0);
        Due.feed(x, "n2;l0 0");
        DUE.is("it stays until the next", x.fault(), 0);
        DUE.is("B like A", x.survey(), -14);
        DUE.is("its letter", x.fault(), 6);
        DUE.is("an empty text", x.survey(), 0);
        DUE.is("has none", x.fault(), Due.NONE);
        Due.feed(x, "n1;");
        DUE.is("out of bounds", x.survey(), -12);
        DUE.is("its letter", x.fault(), 1);
        Due.feed(x, "n2;");
        DUE.is("a survey", x.survey(), 0);
        DUE.is("has none", x.fault(), Due.NONE);
    }

    /** Promise 3: "-10 less the number of its FAULT (all else is as it was)". */
    private static void aFaultLeavesAllElse() {
        Twins busy = new Twins(DUE, "busy", States::busyWithoutText);
        busy.unchangedByFault("x", -11, 0);
        busy.unchangedByFault("n8;l7 6 1 50;i1;m", -11, 17);
        busy.unchangedByFault("n2;l0 1 1 1;m1 2 0;", -12, 15);
        busy.unchangedByFault("n2;i1;i1;i1;i1;i1;", -13, 15);
        busy.unchangedByFault("n7;l0 1 1 1;l1 0 1 1;", -14, 15);
        Twins bare = new Twins(DUE, "new", MapDuty::new);
        bare.unchangedByFault("n2;l0 1 1 1;m1 1 0;i1", -11, 21);
        bare.unchangedByFault("n2;l0 1 1 1;m1 1 0;i0;", -12, 20);
    }

    /** Promise 3: "DAY 0, THE LAND, MAPS as told, nothing OWED, PAID, nobody FELL; no JOURNEYS, no BOOK; IMAGES, what could be
     *  undone are gone; THE SEED stays". */
    private static void aSurveyBeginsAnew() {
        MapDuty x = States.busyWithoutText();
        int seed = x.seed(0);
        x.seed(seed);
        Due.feed(x, States.SMALL);
        DUE.is("survey", x.survey(), 2);
        MapDuty y = Due.surveyed(States.SMALL);
        y.seed(seed);
        DUE.same("a survey on an old object is as one on a new", Witness.of(x), Witness.of(y));
    }
}
