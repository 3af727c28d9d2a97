/** The edges that the document names for promises 6 to 8: the tape, its tokens, papers and their faults. */
public final class TapeEdgesTest {
    private static final int BAD = PaperHouses.BAD, STATE = PaperHouses.STATE, FULL = PaperHouses.FULL;
    private static final int MAX = Integer.MAX_VALUE, MIN = Integer.MIN_VALUE;
    private static final String FIGURES = "0123456789";
    private static final String FIGURES_OF_24 = "abcdefghijabcdefghijabcd";
    private static final String LAW = "q1;";
    private static final String SIX = LAW + "pabcdef;";
    private static final String MOST = LAW + "p" + FIGURES_OF_24 + ";";
    private static final String FIVE_WALLS = "x3;x4;x5;x6;x7;";
    private static final String FIVE_FOLK = "l0,0;d0,1;s0,0;o0,1;b0,0;";
    private static final String SORTS = "ldsob";
    private static final Due DUE = new Due();

    public static void main(String[] args) {
        bytesThatCome();
        roomOfTheTape();
        theTapeAnew();
        everyByteEverywhere();
        numbersOfTwoFigures();
        laws();
        pictures();
        walls();
        wallsThereAre();
        folk();
        folkThereAre();
        firstTokenAtFault();
        leastOfOneToken();
        theEnd();
        allThatAPaperMayTell();
        inPlaceOfTheOneBefore();
        allStays();
        theLatestFault();
        DUE.end();
    }

    private static void good(String text, int cells) {
        PaperHouses x = new PaperHouses();
        DUE.is(text, Due.read(x, text), cells);
        DUE.is(text + ", fault()", x.fault(), 0);
        DUE.is(text + ", cells", x.count(1), cells);
        DUE.is(text + ", bytes", x.count(9), 0);
    }

    private static void faulty(String text, int place, int number) {
        PaperHouses x = new PaperHouses();
        DUE.is(text, Due.read(x, text), -1000100 - place);
        DUE.is(text + ", fault()", x.fault(), number);
        DUE.is(text + ", cells", x.count(1), 0);
        DUE.is(text + ", bytes", x.count(9), 0);
    }

    private static void bytesThatCome() {
        DUE.says("A byte (0 to 255) comes behind the tape: how many it has.");
        int[] none = {-1, 256, -128, MAX, MIN};
        for (int b : none) {
            PaperHouses x = new PaperHouses();
            DUE.is("feed(" + b + ")", x.feed(b), BAD);
            DUE.is("nothing came", x.count(9), 0);
        }
        for (int b = 0; b < 256; b++) {
            PaperHouses x = new PaperHouses();
            DUE.is("feed(" + b + ")", x.feed(b), 1);
            DUE.is("feed(" + b + ") again", x.feed(b), 2);
            DUE.is("bytes", x.count(9), 2);
        }
    }

    private static void roomOfTheTape() {
        DUE.says("THE TAPE has at most 90 bytes, that come one by one");
        String longest = "q24;p" + FIGURES_OF_24 + ";x10;x11;x12;x13;x14;l05,01;d05,01;s05,01;o05,01;b05,01;";
        String text = longest + "l0,0;";
        DUE.is("as long as the tape", text.length(), 90);
        PaperHouses x = new PaperHouses();
        for (int k = 1; k <= 90; k++) DUE.is("byte " + k, x.feed(text.charAt(k - 1)), k);
        for (int k = 0; k < 3; k++) DUE.is("one more", x.feed(';'), FULL);
        DUE.is("BAD ahead of FULL", x.feed(256), BAD);
        DUE.is("BAD ahead of FULL", x.feed(-1), BAD);
        DUE.is("bytes", x.count(9), 90);
        DUE.is("it is read as it came", x.paper(), -1000100 - longest.length());
        DUE.is("a person more", x.fault(), 3);
        String cut = "q24;p" + FIGURES_OF_24 + ";x10;x11;x12;x13;x14;" + "l05,01;".repeat(4) + "b05,01";
        DUE.is("the last byte of all is looked at", Due.read(x, cut + "0".repeat(90 - cut.length())), -1000100 - cut.length() + 2);
        DUE.is("a run of figures", x.fault(), 1);
        good(longest, 24);
    }

    private static void theTapeAnew() {
        DUE.says("The tape, empty then, is read: how many CELLS there are.");
        PaperHouses x = new PaperHouses();
        DUE.is("nothing at all", x.paper(), -1000100);
        for (int k = 0; k < 90; k++) x.feed('z');
        DUE.is("a fault", x.paper(), -1000100);
        DUE.is("empty behind a fault", x.count(9), 0);
        DUE.is("the first byte anew", x.feed('q'), 1);
        Due.feed(x, SIX.substring(1));
        DUE.is("good", x.paper(), 6);
        DUE.is("empty behind a good one", x.count(9), 0);
        DUE.is("nothing at all again", x.paper(), -1000100);
        DUE.is("the first byte anew", x.feed('q'), 1);
        for (int k = 2; k <= 90; k++) x.feed('q');
        DUE.is("full again", x.feed('q'), FULL);
        PaperHouses y = new PaperHouses();
        String[] cut = {"q1", "q", "q24;pabcdef;x1", "q24;pabcdef;x1;l0", "q24;pabcdef;x1;l0,0"};
        for (String text : cut) {
            Due.read(y, "123456789".repeat(10));
            DUE.is("no byte of an older tape, " + text, Due.read(y, text), -1000100 - text.length());
        }
        for (int cells = 6; cells <= 24; cells++) good(LAW + "p" + FIGURES_OF_24.substring(0, cells) + ";", cells);
    }

    /** Behind these bytes each byte is tried; what is not told as good or as a fault of its own cannot stand there. */
    private static void behind(String ahead, String good, String untold, String tooMany) {
        for (int b = 0; b < 256; b++) {
            char sign = (char) b;
            String text = ahead + sign;
            boolean figure = FIGURES.indexOf(sign) >= 0;
            int start = figure ? startOfFigures(text) : ahead.length();
            if (good.indexOf(sign) >= 0) {
                boolean ends = sign == ';' && !ahead.matches("q\\d*");
                if (ends) good(text, text.indexOf(';', 3) - 4);
                else faulty(text, text.length(), 1);
            } else if (untold.indexOf(sign) >= 0) {
                faulty(text, start, 2);
            } else if (tooMany.indexOf(sign) >= 0) {
                faulty(text, start, 3);
            } else {
                faulty(text, figure && text.length() - start > 2 ? start : ahead.length(), 1);
            }
        }
    }

    private static int startOfFigures(String text) {
        int start = text.length();
        while (start > 0 && FIGURES.indexOf(text.charAt(start - 1)) >= 0) start--;
        return start;
    }

    private static void everyByteEverywhere() {
        DUE.says("letters a to z (each by itself), NUMBERS (figures, 2 at most), SIGNS , and ; nothing else, no blanks.");
        behind("", "q", "", "");
        behind("q", FIGURES, "", "");
        behind("q0", FIGURES + ";", "", "");
        behind("q2", "01234;", "56789", "");
        behind("q24", ";", "", "");
        behind("q1;", "p", "", "");
        for (int cells = 0; cells <= 5; cells++) behind(LAW + "p" + FIGURES_OF_24.substring(0, cells), "abcdefghij", "", "");
        behind(LAW + "pabcdef", "abcdefghij;", "", "");
        behind(LAW + "p" + FIGURES_OF_24.substring(0, 23), "abcdefghij;", "", "");
        behind(LAW + "p" + FIGURES_OF_24, ";", "", "abcdefghij");
        behind(MOST, "x" + SORTS, "", "");
        behind(MOST + "x", "123456789", "0", "");
        behind(MOST + "x1", FIGURES + ";", "", "");
        behind(MOST + "x2", "0123;", "456789", "");
        behind(MOST + "x23", ";", "", "");
        behind(MOST + "x3;", "x" + SORTS, "", "");
        behind(MOST + FIVE_WALLS, SORTS, "", "x");
        for (int s = 0; s < 5; s++) {
            String folk = MOST + FIVE_WALLS + SORTS.charAt(s);
            behind(folk, "012345", "6789", "");
            behind(folk + "0", "012345,", "6789", "");
            behind(folk + "05", ",", "", "");
            behind(folk + "5,", "01", "23456789", "");
            behind(folk + "5,0", "01;", "23456789", "");
            behind(folk + "5,01", ";", "", "");
            behind(folk + "5,1;", SORTS, "", "");
        }
        behind(SIX + FIVE_FOLK, "", "", SORTS);
    }

    private static void numbersOfTwoFigures() {
        DUE.says("(a run of three figures, at its first; the end: how many bytes there are)");
        String[] ahead = {"q", SIX + "x", SIX + "l", SIX + "l0,"};
        for (String text : ahead) {
            for (String run : new String[] {"000", "001", "010", "100", "999", "0000", "1234567890"}) {
                faulty(text + run, text.length(), 1);
                faulty(text + run + ";", text.length(), 1);
            }
        }
        good("q01;pabcdef;x03;l01,00;d1,01;", 6);
        good("q00;pabcdef;l00,01;", 6);
        faulty("0", 0, 1);
        faulty("00", 0, 1);
        faulty("000", 0, 1);
        faulty("q1;p12", 4, 1);
        faulty("q1;p123", 4, 1);
        faulty(SIX + "123", 11, 1);
        faulty("q1;pabcdef123", 10, 1);
        faulty(SIX + "l0,0;99", 16, 1);
    }

    private static void laws() {
        DUE.says("law: q FADE ; (0 to 24).");
        for (int n = 0; n < 100; n++) {
            if (n > 24) {
                faulty("q" + n + ";pabcdef;", 1, 2);
                continue;
            }
            PaperHouses x = Due.of("q" + n + ";pabcdef;");
            DUE.is("count(5)", x.count(5), n);
            good("q" + n / 10 + n % 10 + ";pabcdef;", 6);
        }
        faulty("q;", 1, 1);
        faulty("qq1;", 1, 1);
        faulty("q1,", 2, 1);
        faulty("q1;;", 3, 1);
        faulty("q1;q1;", 3, 1);
    }

    private static void pictures() {
        DUE.says("(FIGURES a to j: 0 to 9; CELLS 0 .. 23, 6 to 24, side by side)");
        for (int cells = 0; cells <= 30; cells++) {
            String text = LAW + "p" + (FIGURES_OF_24 + FIGURES_OF_24).substring(0, cells) + ";";
            if (cells < 6) faulty(text, 4 + cells, 1);
            else if (cells > 24) faulty(text, 28, 3);
            else good(text, cells);
        }
        PaperHouses x = Due.of(MOST);
        for (int c = 0; c < 24; c++) DUE.is("figure of cell " + c, x.cell(c, 0), c % 10);
        DUE.is("no more cells", x.cell(24, 0), BAD);
        PaperHouses y = Due.of(LAW + "pjjjjja;");
        DUE.is("the greatest figure", y.cell(0, 0), 9);
        DUE.is("the least figure", y.cell(5, 0), 0);
        faulty(LAW + "pabcdek;", 9, 1);
        faulty(LAW + "pabcdef,g;", 10, 1);
    }

    private static void walls() {
        DUE.says("(it stands ahead of that CELL: 1 to the last one; greater than the one of the wall ahead;");
        int[] sizes = {6, 7, 23, 24};
        for (int cells : sizes) {
            String ahead = LAW + "p" + FIGURES_OF_24.substring(0, cells) + ";";
            for (int n = 0; n < 100; n++) {
                if (n >= 1 && n < cells) good(ahead + "x" + n + ";", cells);
                else faulty(ahead + "x" + n + ";", ahead.length() + 1, 2);
            }
        }
        for (int first = 1; first < 24; first++) {
            for (int second = 0; second <= 24; second++) {
                String ahead = MOST + "x" + first + ";x";
                if (second > first && second < 24) good(ahead + second + ";", 24);
                else faulty(ahead + second + ";", ahead.length(), 2);
            }
        }
        PaperHouses x = Due.of(SIX + "x1;x5;");
        int[] starts = {0, 1, 5};
        int[] sizesOf = {1, 4, 1};
        for (int h = 0; h < 3; h++) {
            DUE.is("the first cell of house " + h, x.house(h, 0), starts[h]);
            DUE.is("how many cells of house " + h, x.house(h, 1), sizesOf[h]);
        }
    }

    private static void wallsThereAre() {
        DUE.says("WALLS 0 .. 4, 5 at most: HOUSES 0, 1, .. lie between them, one more than WALLS)");
        StringBuilder text = new StringBuilder(MOST);
        for (int walls = 0; walls <= 5; walls++) {
            PaperHouses x = Due.of(text.toString());
            DUE.is("walls", x.count(2), walls);
            DUE.is("the last house", x.house(walls, 0), walls == 0 ? 0 : 18 + walls);
            DUE.is("no more houses", x.house(walls + 1, 0), BAD);
            if (walls < 5) text.append("x").append(19 + walls).append(";");
        }
        faulty(MOST + FIVE_WALLS + "x8;", (MOST + FIVE_WALLS).length(), 3);
        faulty(MOST + FIVE_WALLS + "x8;l0,0;", (MOST + FIVE_WALLS).length(), 3);
        good(SIX + "x1;x2;x3;x4;x5;", 6);
        faulty(SIX + "x1;x2;x3;x4;x5;x6;", 26, 3);
    }

    private static void folk() {
        DUE.says("(SORT: l a lodger, d a widower, s a short one, o a doctor, b a boy; a HOUSE; 0 down, 1 up;");
        for (int walls = 0; walls <= 5; walls++) {
            String ahead = MOST + FIVE_WALLS.substring(0, 3 * walls) + "s";
            for (int house = 0; house < 100; house++) {
                if (house <= walls) good(ahead + house + ",0;", 24);
                else faulty(ahead + house + ",0;", ahead.length(), 2);
            }
        }
        for (int way = 0; way < 100; way++) {
            if (way < 2) good(SIX + "o0," + way + ";", 6);
            else faulty(SIX + "o0," + way + ";", 14, 2);
        }
        PaperHouses x = Due.of(SIX + "x3;l0,0;d1,1;s0,1;o1,0;b0,1;");
        int[] houses = {0, 1, 0, 1, 0};
        int[] ways = {0, 1, 1, 0, 1};
        for (int f = 0; f < 5; f++) {
            DUE.is("kind", x.kind(f), f + 1);
            DUE.is("house", x.folk(f, 0), houses[f]);
            DUE.is("way", x.folk(f, 1), ways[f]);
        }
        for (char sort = 'a'; sort <= 'z'; sort++) {
            if (SORTS.indexOf(sort) >= 0) good(SIX + sort + "0,0;", 6);
            else if (sort != 'x') faulty(SIX + sort + "0,0;", 11, 1);
        }
    }

    private static void folkThereAre() {
        DUE.says("FOLK 0 .. 4, 5 at most)");
        for (int many = 0; many <= 5; many++) {
            PaperHouses x = Due.of(SIX + FIVE_FOLK.substring(0, 5 * many));
            DUE.is("folk", x.count(3), many);
            if (many > 0) DUE.is("the last one", x.kind(many - 1), many);
            DUE.is("no more folk", x.kind(many), BAD);
        }
        for (int s = 0; s < 5; s++) faulty(SIX + FIVE_FOLK + SORTS.charAt(s) + "0,0;", 36, 3);
        faulty(SIX + FIVE_FOLK + "l9,9;", 36, 3);
    }

    private static void firstTokenAtFault() {
        DUE.says("FAULTS, the first TOKEN that has one (its first byte)");
        faulty("q25;pk;", 1, 2);
        faulty("q25,", 1, 2);
        faulty("q24,pk;", 3, 1);
        faulty("q1;pabc;x99;", 7, 1);
        faulty(SIX + "x6,", 12, 2);
        faulty(SIX + "x5,6", 13, 1);
        faulty(SIX + "x10;x1;l9,9;", 12, 2);
        faulty(SIX + "l1,2;", 12, 2);
        faulty(SIX + "l0,2,", 14, 2);
        faulty(SIX + "l0;2;", 13, 1);
        faulty(SIX + "l0,99;z", 14, 2);
        faulty(SIX + "l0,0;x1;l9,9;", 16, 1);
        faulty("q1" + (char) 0 + ";", 2, 1);
        faulty("q1;" + (char) 255, 3, 1);
        faulty("q1 ;pabcdef;", 2, 1);
        faulty("q1;\npabcdef;", 3, 1);
        faulty(" " + SIX, 0, 1);
        faulty(SIX + " ", 11, 1);
    }

    private static void leastOfOneToken() {
        DUE.says("of one TOKEN the least: 1 it cannot stand there, or is none");
        faulty("99", 0, 1);
        faulty("q999;", 1, 1);
        faulty(LAW + "p" + FIGURES_OF_24 + "k;", 28, 1);
        faulty(LAW + "p" + FIGURES_OF_24 + "x1;", 28, 1);
        faulty(LAW + "p" + FIGURES_OF_24 + "a;", 28, 3);
        faulty(MOST + FIVE_WALLS + "l0,0;x8;", (MOST + FIVE_WALLS).length() + 5, 1);
        faulty(SIX + FIVE_FOLK + "x1;", 36, 1);
        faulty(SIX + FIVE_FOLK + "9", 36, 1);
        faulty(SIX + "x3;99", 14, 1);
    }

    private static void theEnd() {
        DUE.says("the end: how many bytes there are");
        String text = "q24;p" + FIGURES_OF_24 + ";x12;l00,01;d01,00;s1,1;o1,01;b01,1;";
        for (int length = 0; length <= text.length(); length++) {
            String cut = text.substring(0, length);
            if (length >= 30 && cut.endsWith(";")) good(cut, 24);
            else faulty(cut, length, 1);
        }
    }

    private static void allThatAPaperMayTell() {
        DUE.says("paper: law picture { wall } { folk }.");
        good("q0;paaaaaa;", 6);
        good(SIX + "l0,0;", 6);
        good(SIX + "x3;", 6);
        good("q24;p" + FIGURES_OF_24 + ";x19;x20;x21;x22;x23;l05,01;d05,01;s05,01;o05,01;b05,01;", 24);
        faulty("pabcdef;", 0, 1);
        faulty("q1;x3;", 3, 1);
        faulty("q1;l0,0;", 3, 1);
        faulty(SIX + "pabcdef;", 11, 1);
        faulty(SIX + SIX, 11, 1);
        faulty(SIX + "l0,0;x3;", 16, 1);
        faulty(SIX + ";", 11, 1);
    }

    private static void inPlaceOfTheOneBefore() {
        DUE.says("A PAPER that is read stands in place of the one before (none at first): DAY 0, nobody KNOWS anything, nothing is FADED; "
            + "no ACT can be undone.");
        PaperHouses x = Due.of("q1;pabcdefghij;x2;x4;l0,1;d1,1;s2,0;o0,1;b1,0;");
        Due.lay(x, 5, 1, 2);
        x.days(24);
        x.fade(9, 0);
        x.ask(0, 1);
        x.drop(7);
        DUE.is("the same again", Due.read(x, "q1;pabcdefghij;x2;x4;l0,1;d1,1;s2,0;o0,1;b1,0;"), 10);
        for (int f = 0; f < 5; f++) DUE.is("knows nothing, " + f, x.folk(f, 2), 0);
        DUE.is("house anew", x.folk(0, 0), 0);
        DUE.is("way anew", x.folk(2, 1), 0);
        int[] counts = {1, 10, 2, 5, 0, 1, 0, 0, 0, 0};
        for (int what = 0; what < 10; what++) DUE.is("count(" + what + ")", x.count(what), counts[what]);
        DUE.is("undo", x.undo(), STATE);
        DUE.is("the trace is no paper's", x.trace(0), 21);
        DUE.is("nor is status", x.status(), 1);
        x.days(1);
        DUE.is("less than before", Due.read(x, "q0;pjihgfe;"), 6);
        DUE.is("no such cell", x.cell(6, 0), BAD);
        DUE.is("no such house", x.house(1, 0), BAD);
        DUE.is("no such one", x.kind(0), BAD);
        DUE.is("no such wall", x.move(0, 1), BAD);
        DUE.is("the one house", x.house(0, 1), 6);
        DUE.is("undo", x.undo(), STATE);
    }

    private static void allStays() {
        DUE.says("-1000100 less the place of a FAULT: all stays.");
        String[] faults = {"", "q99;", LAW + "pabc", LAW + "p" + FIGURES_OF_24 + "a", SIX + "x0;", SIX + "x1;l1,0;d2,0;", SIX + "x1;l1,0;d1,1;;"};
        for (String text : faults) {
            PaperHouses x = Due.of("q3;pabcabcab;x3;x6;l0,1;d2,0;s1,1;o1,0;b0,0;");
            x.days(2);
            x.move(1, 1);
            Due.read(x, text);
            int[] counts = {0, 8, 2, 5, 2, 3, 9, 255, 3, 0};
            for (int what = 0; what < 10; what++) DUE.is("count(" + what + ") behind " + text, x.count(what), counts[what]);
            for (int c = 0; c < 8; c++) DUE.is("figure", x.cell(c, 0), c % 3);
            for (int f = 0; f < 5; f++) DUE.is("kind", x.kind(f), f + 1);
            DUE.is("the wall that was moved", x.house(2, 0), 7);
            DUE.is("undo", x.undo(), 2);
            DUE.is("the wall again", x.house(2, 0), 6);
        }
    }

    private static void theLatestFault() {
        DUE.says("The number of the latest FAULT; 0 before one.");
        PaperHouses x = new PaperHouses();
        DUE.is("before one", x.fault(), 0);
        x.feed(300);
        DUE.is("BAD is none", x.fault(), 0);
        Due.read(x, SIX);
        DUE.is("a good paper has none", x.fault(), 0);
        Due.read(x, SIX + FIVE_FOLK + "l");
        DUE.is("a third", x.fault(), 3);
        x.paper();
        DUE.is("a first", x.fault(), 1);
        Due.read(x, "q25;");
        DUE.is("a second", x.fault(), 2);
        DUE.is("once more", x.fault(), 2);
        Due.read(x, SIX);
        DUE.is("a good paper leaves it", x.fault(), 2);
        x.image(0);
        x.days(1);
        x.undo();
        x.restore(0);
        DUE.is("other calls leave it", x.fault(), 2);
    }
}
