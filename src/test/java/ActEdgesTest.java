/** The edges that the document names for promises 9 to 16 and 35: days, acts, undoing, and what is told of them. */
public final class ActEdgesTest {
    private static final int BAD = PaperHouses.BAD, STATE = PaperHouses.STATE, FULL = PaperHouses.FULL;
    private static final int MAX = Integer.MAX_VALUE, MIN = Integer.MIN_VALUE;
    private static final String FIGURES_OF_24 = "abcdefghijabcdefghijabcd";
    private static final String MOST = "q24;p" + FIGURES_OF_24 + ";x19;x20;x21;x22;x23;l5,1;d5,0;s5,1;o5,0;b5,1;";
    // Houses 0: cells 0 to 2, 1: 3 to 5, 2: 6 and 7.
    private static final String EIGHT = "q2;pabcabcab;x3;x6;l0,1;d2,0;s1,1;o1,0;b0,0;";
    private static final Due DUE = new Due();

    public static void main(String[] args) {
        lodgersSee();
        widowersSee();
        shortOnesSee();
        doctorsSee();
        boysSee();
        oneTurns();
        besidesAllTheyKnew();
        cellsFadeDayByDay();
        daysAtOnce();
        beyondTheLastDay();
        theLastDayFades();
        wallsAtTheirEnds();
        wallsThatAreNone();
        cellsFade();
        folkArePut();
        nothingToUndo();
        eachActIsUndone();
        oldestIsForgotten();
        undoneAndActedAnew();
        cellsTold();
        housesTold();
        folkTold();
        periods();
        counts();
        DUE.end();
    }

    private static void sees(PaperHouses x, String when, int folk, int due) {
        DUE.is(when, x.folk(folk, 3), due);
    }

    private static void lodgersSee() {
        DUE.says("a lodger the CELLS of it that are not FADED");
        PaperHouses x = Due.of("q0;pabcdefghijabcdefghijabcd;x1;x23;l0,0;l1,0;l2,0;");
        sees(x, "a house of one cell", 0, 1);
        sees(x, "a house of nearly all", 1, 0x7FFFFE);
        sees(x, "the last cell", 2, 0x800000);
        x.fade(0, 1);
        x.fade(1, 1);
        x.fade(22, 1);
        x.fade(23, 1);
        sees(x, "nothing is left", 0, 0);
        sees(x, "without its ends", 1, 0x3FFFFC);
        sees(x, "nothing is left", 2, 0);
        DUE.is("who sees nothing comes to know nothing", x.put(0, 0), 0);
        sees(Due.of("q0;p" + FIGURES_OF_24 + ";l0,0;"), "all there are", 0, 0xFFFFFF);
    }

    private static void widowersSee() {
        DUE.says("a widower those, and on both sides the one CELL beyond it (if there is one, and that is not FADED)");
        PaperHouses x = Due.of("q0;pabcdef;x1;x2;x4;x5;d0,0;d1,0;d2,0;d3,0;d4,0;");
        int[] due = {3, 7, 30, 56, 48};
        for (int f = 0; f < 5; f++) sees(x, "house " + f, f, due[f]);
        x.fade(1, 1);
        x.fade(4, 1);
        int[] left = {1, 5, 12, 40, 32};
        for (int f = 0; f < 5; f++) sees(x, "faded, house " + f, f, left[f]);
        sees(Due.of("q0;pabcdef;d0,0;"), "nothing beyond one house", 0, 63);
        PaperHouses far = Due.of("q0;p" + FIGURES_OF_24 + ";x23;d1,0;d0,0;");
        sees(far, "nothing beyond the last cell", 0, 0xC00000);
        sees(far, "the one cell beyond", 1, 0xFFFFFF);
        far.fade(23, 1);
        sees(far, "the cell beyond alone", 0, 0x400000);
    }

    private static void shortOnesSee() {
        DUE.says("a short one what a lodger does, but only CELLS with even numbers");
        PaperHouses x = Due.of("q0;p" + FIGURES_OF_24 + ";x1;x2;x22;x23;s0,0;s1,0;s2,0;s3,0;s4,0;");
        int[] due = {1, 0, 0x155554, 0x400000, 0};
        for (int f = 0; f < 5; f++) sees(x, "house " + f, f, due[f]);
        x.fade(0, 1);
        x.fade(20, 1);
        sees(x, "faded", 0, 0);
        sees(x, "faded", 2, 0x055554);
        DUE.is("who sees nothing comes to know nothing", x.put(1, 1), 0);
    }

    private static void doctorsSee() {
        DUE.says("a doctor what a lodger does, but only CELLS with a FIGURE greater than that of the CELL ahead (CELL 0 always)");
        PaperHouses x = Due.of("q0;pabbacj;x1;x2;x4;o0,0;o1,0;o2,0;o3,0;");
        int[] due = {1, 2, 0, 48};
        for (int f = 0; f < 4; f++) sees(x, "house " + f, f, due[f]);
        x.fade(4, 1);
        sees(x, "the cell ahead is faded", 3, 32);
        x.fade(0, 1);
        sees(x, "cell 0 is faded", 0, 0);
        sees(x, "the cell ahead next door is faded", 1, 2);
        sees(Due.of("q0;paaaaaa;o0,0;"), "all alike", 0, 1);
        sees(Due.of("q0;pjihgfe;o0,0;"), "ever less", 0, 1);
        sees(Due.of("q0;pabcdef;o0,0;"), "ever more", 0, 63);
        sees(Due.of("q0;p" + "ab".repeat(12) + ";o0,0;"), "the last cell, too", 0, 0xAAAAAB);
    }

    private static void boysSee() {
        DUE.says("a boy what a doctor would if nothing were FADED");
        PaperHouses x = Due.of("q0;pabbacj;x1;x2;x4;b0,0;b1,0;b2,0;b3,0;");
        int[] due = {1, 2, 0, 48};
        for (int f = 0; f < 4; f++) sees(x, "house " + f, f, due[f]);
        for (int c = 0; c < 6; c++) x.fade(c, 1);
        for (int f = 0; f < 4; f++) sees(x, "all is faded, house " + f, f, due[f]);
        DUE.is("and one comes to know it", x.put(3, 3), 48);
    }

    // Up and down again is a round of twice as many steps as there are walls.
    private static void oneTurns() {
        DUE.says("(at the last one that way one turns, WAY is the other one; with one HOUSE one stays and turns)");
        for (int walls = 1; walls <= 5; walls++) {
            for (int start = 0; start < 2 * (walls + 1); start++) {
                int house = start / 2;
                int way = start % 2;
                PaperHouses x = Due.of("q0;pabcdef;" + "x1;x2;x3;x4;x5;".substring(0, 3 * walls) + "l" + house + "," + way + ";");
                int round = 2 * walls;
                int step = way == 1 ? house : (round - house) % round;
                for (int d = 1; d <= 2 * round + 1; d++) {
                    x.days(1);
                    int came = (step + d - 1) % round;
                    int now = (step + d) % round;
                    String when = "with " + walls + " walls from " + house + " by " + way + ", day " + d;
                    DUE.is(when + ", house", x.folk(0, 0), Math.min(now, round - now));
                    DUE.is(when + ", way", x.folk(0, 1), came < walls ? 1 : 0);
                }
            }
        }
        PaperHouses one = Due.of("q0;pabcdef;l0,0;s0,1;");
        for (int d = 1; d <= 4; d++) {
            one.days(1);
            DUE.is("one stays", one.folk(0, 0), 0);
            DUE.is("one turns", one.folk(0, 1), d % 2);
            DUE.is("the other turns", one.folk(1, 1), (d + 1) % 2);
        }
    }

    private static void besidesAllTheyKnew() {
        DUE.says("and KNOW (besides all that they knew) what they SEE there.");
        PaperHouses x = Due.of("q0;pabcdef;x2;x4;l0,1;");
        DUE.is("not the house that one goes from", x.days(1), 12);
        DUE.is("besides", x.days(1), 60);
        DUE.is("known already", x.days(1), 60);
        for (int c = 0; c < 6; c++) x.fade(c, 1);
        DUE.is("what is faded is known yet, and no more", x.days(1), 60);
        x.fade(0, 0);
        DUE.is("not by being made new", x.count(7), 60);
        x.days(4);
        DUE.is("by coming there", x.count(7), 61);
    }

    private static void cellsFadeDayByDay() {
        DUE.says("Then, if FADE is above 0, the CELL that is DAY times FADE, left over by how many CELLS there are, is FADED. DAY is 1 more.");
        int[] sizes = {6, 7, 23, 24};
        for (int cells : sizes) {
            for (int law = 0; law <= 24; law++) {
                PaperHouses x = Due.of("q" + law + ";p" + FIGURES_OF_24.substring(0, cells) + ";");
                int faded = 0;
                for (int day = 0; day < 50; day++) {
                    x.days(1);
                    if (law > 0) faded |= 1 << (day * law) % cells;
                    DUE.is("q" + law + ", " + cells + " cells, day " + day, x.count(6), faded);
                    DUE.is("a day more", x.count(4), day + 1);
                }
            }
        }
        PaperHouses seen = Due.of("q1;pabcdef;l0,0;");
        DUE.is("what fades that day is seen that day", seen.days(1), 63);
        DUE.is("it is faded then", seen.cell(0, 1), 1);
    }

    private static void daysAtOnce() {
        DUE.says("n DAYS (1 to 24), an ACT each: CELLS (bits) that anybody KNOWS then.");
        PaperHouses x = Due.of(EIGHT);
        DUE.is("one", x.days(1), 127);
        DUE.is("an act", x.count(8), 1);
        DUE.is("24", x.days(24), 255);
        DUE.is("the day", x.count(4), 25);
        DUE.is("acts", x.count(8), 24);
        int[] none = {0, -1, 25, MAX, MIN};
        for (int n : none) DUE.is("days(" + n + ")", x.days(n), BAD);
        DUE.is("the day stays", x.count(4), 25);
        DUE.is("nobody to know", Due.of("q0;pabcdef;").days(24), 0);
        DUE.says("`int days(int n)`: n DAYS (1 to 24), an ACT each: CELLS (bits) that anybody KNOWS then. BAD; STATE: no PAPER (ahead of BAD)");
        PaperHouses bare = new PaperHouses();
        int[] any = {1, 24, 0, -1, 25, MAX, MIN};
        for (int n : any) DUE.is("days(" + n + ")", bare.days(n), STATE);
    }

    private static PaperHouses onDay(int day, String text) {
        PaperHouses x = Due.of(text);
        while (day - x.count(4) > 24) x.days(24);
        if (day > x.count(4)) x.days(day - x.count(4));
        return x;
    }

    // At most 512 calls, so days are counted here and not asked for.
    private static PaperHouses late(int day, String text) {
        PaperHouses x = Due.of(text);
        for (int d = 0; d < day / 24; d++) x.days(24);
        if (day % 24 > 0) x.days(day % 24);
        return x;
    }

    private static void beyondTheLastDay() {
        DUE.says("FULL: beyond DAY 9999.");
        String text = "q5;pabcdef;l0,0;";
        PaperHouses x = late(9975, text);
        DUE.is("up to the last at once", x.days(24), 63);
        DUE.is("the last day", x.count(4), 9999);
        for (int n = 1; n <= 24; n++) DUE.is("days(" + n + ")", x.days(n), FULL);
        DUE.is("BAD ahead of FULL", x.days(25), BAD);
        DUE.is("BAD ahead of FULL", x.days(0), BAD);
        DUE.is("the last day yet", x.count(4), 9999);
        DUE.is("foretold beyond it", x.ahead(0, 60, 0), 0);
        DUE.is("drawn beyond it", x.drawn(60, 1, 0), 6);
        DUE.is("undo", x.undo(), 23);
        DUE.is("two more are too many", x.days(2), FULL);
        DUE.is("one more", x.days(1), 63);
        PaperHouses y = late(9976, text);
        DUE.is("one too many at once", y.days(24), FULL);
        DUE.is("none of them came", y.count(4), 9976);
        DUE.is("acts as they were", y.count(8), 24);
        DUE.is("as many as may", y.days(23), 63);
        DUE.is("the last day", y.count(4), 9999);
        DUE.is("days begin anew", Due.read(y, text), 6);
        DUE.is("the first day", y.days(24), 63);
        DUE.is("the day", y.count(4), 24);
    }

    private static void theLastDayFades() {
        DUE.says("DAY times FADE, left over by how many CELLS there are");
        PaperHouses x = late(9998, "q24;pabcdefg;");
        for (int c = 0; c < 7; c++) x.fade(c, 0);
        x.days(1);
        DUE.is("9998 times 24 leaves 6 by 7", x.count(6), 64);
    }

    private static void wallsAtTheirEnds() {
        DUE.says("STATE: another one stands there, CELL 0, behind the last one.");
        PaperHouses x = Due.of("q0;pabcdef;x2;x4;");
        DUE.is("down", x.move(0, 0), 1);
        DUE.is("cell 0", x.move(0, 0), STATE);
        DUE.is("up", x.move(1, 1), 5);
        DUE.is("behind the last one", x.move(1, 1), STATE);
        for (int p = 2; p <= 4; p++) DUE.is("up", x.move(0, 1), p);
        DUE.is("another one above", x.move(0, 1), STATE);
        DUE.is("another one below", x.move(1, 0), STATE);
        DUE.is("acts", x.count(8), 5);
        DUE.is("house 0", x.house(0, 1), 4);
        DUE.is("house 1", x.house(1, 1), 1);
        PaperHouses far = Due.of("q0;p" + FIGURES_OF_24 + ";x22;");
        DUE.is("ahead of the last cell of all", far.move(0, 1), 23);
        DUE.is("behind it", far.move(0, 1), STATE);
        PaperHouses packed = Due.of("q0;pabcdef;x1;x2;x3;x4;x5;");
        for (int w = 0; w < 5; w++) {
            DUE.is("no room above " + w, packed.move(w, 1), STATE);
            DUE.is("no room below " + w, packed.move(w, 0), STATE);
        }
        DUE.is("no act", packed.count(8), 0);
        DUE.is("BAD ahead of STATE", packed.move(0, 2), BAD);
        DUE.is("BAD ahead of STATE", packed.move(0, -1), BAD);
    }

    private static void wallsThatAreNone() {
        DUE.says("A WALL is moved by one CELL (1 up, 0 down): ahead of which it stands. BAD");
        PaperHouses x = Due.of("q0;p" + FIGURES_OF_24 + ";x3;x6;x9;x12;x15;");
        for (int w = 0; w < 5; w++) {
            DUE.is("up", x.move(w, 1), 3 * w + 4);
            DUE.is("down", x.move(w, 0), 3 * w + 3);
        }
        int[] none = {-1, 5, 6, MAX, MIN};
        for (int w : none) DUE.is("wall " + w, x.move(w, 1), BAD);
        int[] ways = {-1, 2, MAX, MIN};
        for (int up : ways) DUE.is("way " + up, x.move(2, up), BAD);
        DUE.is("no walls", Due.of("q0;pabcdef;").move(0, 1), BAD);
        DUE.is("one wall", Due.of("q0;pabcdef;x3;").move(1, 1), BAD);
        DUE.is("no paper", new PaperHouses().move(0, 1), BAD);
        DUE.is("acts", x.count(8), 10);
    }

    private static void cellsFade() {
        DUE.says("A CELL is FADED (1), or made new (0): FADED ones (bits). BAD; STATE: it is so.");
        PaperHouses x = Due.of("q0;p" + FIGURES_OF_24 + ";");
        int faded = 0;
        for (int c = 0; c < 24; c++) {
            DUE.is("it is so", x.fade(c, 0), STATE);
            faded |= 1 << c;
            DUE.is("fade(" + c + ", 1)", x.fade(c, 1), faded);
            DUE.is("it is so", x.fade(c, 1), STATE);
        }
        DUE.is("all there are", x.count(6), 0xFFFFFF);
        DUE.is("made new", x.fade(0, 0), 0xFFFFFE);
        DUE.is("made new", x.fade(23, 0), 0x7FFFFE);
        int[] none = {-1, 24, 31, 32, MAX, MIN};
        for (int c : none) {
            DUE.is("fade(" + c + ", 1)", x.fade(c, 1), BAD);
            DUE.is("fade(" + c + ", 0)", x.fade(c, 0), BAD);
        }
        int[] ways = {-1, 2, MAX, MIN};
        for (int on : ways) {
            DUE.is("fade(0, " + on + ")", x.fade(0, on), BAD);
            DUE.is("fade(1, " + on + ")", x.fade(1, on), BAD);
        }
        DUE.is("a cell beyond a short picture", Due.of("q0;pabcdef;").fade(6, 1), BAD);
        DUE.is("no paper", new PaperHouses().fade(0, 1), BAD);
    }

    private static void folkArePut() {
        DUE.says("One is put into a HOUSE (also one's own): what one KNOWS then (bits). BAD.");
        PaperHouses x = Due.of(EIGHT);
        DUE.is("one's own", x.put(0, 0), 7);
        DUE.is("one's own again", x.put(0, 0), 7);
        DUE.is("an act each", x.count(8), 2);
        DUE.is("the last house", x.put(0, 2), 199);
        DUE.is("the way stays", x.folk(0, 1), 1);
        DUE.is("the last one", x.put(4, 2), 128);
        DUE.is("the way stays", x.folk(4, 1), 0);
        DUE.is("the day stays", x.count(4), 0);
        DUE.is("nothing fades", x.count(6), 0);
        int[] none = {-1, 5, MAX, MIN};
        for (int f : none) DUE.is("folk " + f, x.put(f, 0), BAD);
        int[] houses = {-1, 3, MAX, MIN};
        for (int h : houses) DUE.is("house " + h, x.put(0, h), BAD);
        DUE.is("acts", x.count(8), 4);
        PaperHouses one = Due.of("q0;pabcdef;l0,1;");
        DUE.is("one house", one.put(0, 0), 63);
        DUE.is("no second house", one.put(0, 1), BAD);
        DUE.is("no second one", one.put(1, 0), BAD);
        DUE.is("nobody", Due.of("q0;pabcdef;").put(0, 0), BAD);
        DUE.is("no paper", new PaperHouses().put(0, 0), BAD);
    }

    private static void nothingToUndo() {
        DUE.says("The latest ACT is undone: how many can be undone yet. STATE: none.");
        DUE.is("no paper", new PaperHouses().undo(), STATE);
        PaperHouses x = Due.of(EIGHT);
        DUE.is("nothing yet", x.undo(), STATE);
        x.days(1);
        DUE.is("one", x.undo(), 0);
        DUE.is("no more", x.undo(), STATE);
        DUE.is("no more yet", x.undo(), STATE);
        x.days(25);
        x.move(0, 2);
        x.fade(0, 0);
        x.put(0, 3);
        DUE.is("what was refused is none", x.undo(), STATE);
        x.days(3);
        DUE.is("of three", x.undo(), 2);
        x.image(0);
        DUE.is("an image is none, and leaves them", x.undo(), 1);
        x.restore(0);
        DUE.is("none behind an image", x.undo(), STATE);
        x.days(1);
        Due.read(x, EIGHT);
        DUE.is("none behind a paper", x.undo(), STATE);
    }

    private static void eachActIsUndone() {
        DUE.says("each can be undone, the latest first): a DAY; a WALL is moved by one CELL; a CELL is FADED, or no more; "
            + "one is put into a HOUSE (and KNOWS what one SEES there, too).");
        PaperHouses x = Due.of(EIGHT);
        x.move(0, 1);
        x.fade(4, 1);
        x.fade(4, 0);
        x.put(0, 2);
        x.days(1);
        x.move(1, 0);
        DUE.is("undo a wall", x.undo(), 5);
        DUE.is("it stands where it stood", x.house(2, 0), 6);
        DUE.is("undo a day", x.undo(), 4);
        DUE.is("day", x.count(4), 0);
        DUE.is("faded", x.count(6), 0);
        int[][] folk = {{2, 1, 192}, {2, 0, 0}, {1, 1, 0}, {1, 0, 0}, {0, 0, 0}};
        for (int f = 0; f < 5; f++) {
            for (int what = 0; what < 3; what++) DUE.is("folk(" + f + ", " + what + ")", x.folk(f, what), folk[f][what]);
        }
        DUE.is("undo a put", x.undo(), 3);
        DUE.is("house", x.folk(0, 0), 0);
        DUE.is("known", x.folk(0, 2), 0);
        DUE.is("undo what was made new", x.undo(), 2);
        DUE.is("faded again", x.count(6), 16);
        DUE.is("undo a fading", x.undo(), 1);
        DUE.is("not faded", x.count(6), 0);
        DUE.is("undo a wall", x.undo(), 0);
        DUE.is("it stands where it stood", x.house(1, 0), 3);
    }

    private static void oldestIsForgotten() {
        DUE.says("ACTS (24 at most are kept, of more the oldest is forgotten;");
        for (int acts = 22; acts <= 50; acts++) {
            PaperHouses x = Due.of("q0;p" + FIGURES_OF_24 + ";");
            for (int k = 0; k < acts; k++) {
                x.fade(k % 24, k < 24 ? 1 : k < 48 ? 0 : 1);
                DUE.is("kept", x.count(8), Math.min(k + 1, 24));
            }
            for (int left = Math.min(acts, 24) - 1; left >= 0; left--) DUE.is("undo", x.undo(), left);
            DUE.is("no more", x.undo(), STATE);
            int first = Math.max(0, acts - 24);
            DUE.is("what is forgotten stays", x.count(6), first <= 24 ? (1 << first) - 1 : 0xFFFFFF & -1 << first - 24);
        }
        PaperHouses y = Due.of(EIGHT);
        y.move(0, 1);
        y.days(24);
        for (int left = 23; left >= 0; left--) DUE.is("undo", y.undo(), left);
        DUE.is("day", y.count(4), 0);
        DUE.is("the move is forgotten", y.house(1, 0), 4);
        DUE.is("no more", y.undo(), STATE);
    }

    private static void undoneAndActedAnew() {
        DUE.says("each can be undone, the latest first)");
        PaperHouses x = onDay(30, EIGHT);
        for (int k = 0; k < 10; k++) x.undo();
        DUE.is("day", x.count(4), 20);
        x.days(12);
        DUE.is("kept", x.count(8), 24);
        DUE.is("day", x.count(4), 32);
        for (int left = 23; left >= 0; left--) {
            DUE.is("undo", x.undo(), left);
            DUE.is("day", x.count(4), left + 8);
        }
        DUE.is("no more", x.undo(), STATE);
        x.days(2);
        DUE.is("from there on", x.undo(), 1);
        DUE.is("day", x.count(4), 9);
    }

    private static void cellsTold() {
        DUE.says("Of a CELL: 0 the FIGURE, 1 whether it is FADED (1, 0), 2 the HOUSE, 3 FOLK (bits) who KNOW it. BAD.");
        PaperHouses x = Due.of(MOST);
        x.days(1);
        int[][] due = {{0, 0, 1, 0, 0}, {18, 8, 0, 0, 0}, {19, 9, 0, 1, 0}, {21, 1, 0, 3, 2}, {22, 2, 0, 4, 31}, {23, 3, 0, 5, 2}};
        for (int[] d : due) {
            for (int what = 0; what < 4; what++) DUE.is("cell(" + d[0] + ", " + what + ")", x.cell(d[0], what), d[what + 1]);
        }
        int[] none = {-1, 24, MAX, MIN};
        int[] whats = {-1, 4, MAX, MIN};
        for (int c : none) {
            for (int what = 0; what < 4; what++) DUE.is("cell(" + c + ", " + what + ")", x.cell(c, what), BAD);
        }
        for (int what : whats) DUE.is("cell(0, " + what + ")", x.cell(0, what), BAD);
        PaperHouses six = Due.of("q0;pabcdef;");
        DUE.is("the last of six", six.cell(5, 0), 5);
        DUE.is("nobody knows it", six.cell(5, 3), 0);
        DUE.is("none of six", six.cell(6, 0), BAD);
        DUE.is("no paper", new PaperHouses().cell(0, 0), BAD);
    }

    private static void housesTold() {
        DUE.says("Of a HOUSE: 0 the first CELL, 1 how many CELLS, 2 FOLK (bits) in it. BAD.");
        PaperHouses x = Due.of(MOST);
        int[][] due = {{0, 19, 0}, {19, 1, 0}, {20, 1, 0}, {21, 1, 0}, {22, 1, 0}, {23, 1, 31}};
        for (int h = 0; h < 6; h++) {
            for (int what = 0; what < 3; what++) DUE.is("house(" + h + ", " + what + ")", x.house(h, what), due[h][what]);
        }
        int[] none = {-1, 6, MAX, MIN};
        int[] whats = {-1, 3, MAX, MIN};
        for (int h : none) {
            for (int what = 0; what < 3; what++) DUE.is("house(" + h + ", " + what + ")", x.house(h, what), BAD);
        }
        for (int what : whats) DUE.is("house(0, " + what + ")", x.house(0, what), BAD);
        PaperHouses one = Due.of("q0;pabcdef;");
        DUE.is("the one house", one.house(0, 1), 6);
        DUE.is("nobody in it", one.house(0, 2), 0);
        DUE.is("no second one", one.house(1, 0), BAD);
        DUE.is("no paper", new PaperHouses().house(0, 0), BAD);
    }

    private static void folkTold() {
        DUE.says("Of one of the FOLK: 0 the HOUSE, 1 WAY, 2 what one KNOWS (bits), 3 what one SEES there now (bits), 4 PERIOD. BAD.");
        PaperHouses x = Due.of(MOST);
        int[][] due = {{5, 1, 0, 0x800000, 1}, {5, 0, 0, 0xC00000, 1}, {5, 1, 0, 0, 1}, {5, 0, 0, 0x800000, 1}, {5, 1, 0, 0x800000, 1}};
        for (int f = 0; f < 5; f++) {
            for (int what = 0; what < 5; what++) DUE.is("folk(" + f + ", " + what + ")", x.folk(f, what), due[f][what]);
        }
        int[] none = {-1, 5, MAX, MIN};
        int[] whats = {-1, 5, MAX, MIN};
        for (int f : none) {
            for (int what = 0; what < 5; what++) DUE.is("folk(" + f + ", " + what + ")", x.folk(f, what), BAD);
        }
        for (int what : whats) DUE.is("folk(0, " + what + ")", x.folk(0, what), BAD);
        DUE.is("nobody", Due.of("q0;pabcdef;").folk(0, 0), BAD);
        DUE.is("no paper", new PaperHouses().folk(0, 0), BAD);
    }

    private static void period(String picture, String known, int due) {
        PaperHouses x = Due.of("q0;p" + picture + ";l0,0;");
        for (int c = 0; c < known.length(); c++) {
            if (known.charAt(c) == '.') x.fade(c, 1);
        }
        x.put(0, 0);
        DUE.is("period of " + picture + " by " + known, x.folk(0, 4), due);
    }

    private static void periods() {
        DUE.says("the fewest CELLS (1 on) such that all that one KNOWS are alike whose numbers leave the same by it.");
        period("abcdef", "......", 1);
        period("abcdef", "k.....", 1);
        period("abcdef", ".....k", 1);
        period("aaaaaa", "kkkkkk", 1);
        period("abcdef", "kkkkkk", 6);
        period("aaaaab", "kkkkkk", 6);
        period("baaaaa", "kkkkkk", 6);
        period("ababab", "kkkkkk", 2);
        period("ababab", "k.k.k.", 1);
        period("abcabc", "k....k", 2);
        period("abcabc", "k...k.", 3);
        period("abcabc", "kk..kk", 3);
        period("a".repeat(23) + "b", "k".repeat(24), 24);
        period("b" + "a".repeat(23), "k".repeat(24), 24);
        period("a".repeat(12) + "b".repeat(12), "k".repeat(24), 24);
        period("abcdefghijkl".replace('k', 'a').replace('l', 'a').repeat(2), "k".repeat(24), 12);
        period("abcdefghijabcdefghijabcd", "k" + ".".repeat(22) + "k", 2);
    }

    private static void counts() {
        DUE.says("How many: 0 ROWS, 1 CELLS, 2 WALLS, 3 FOLK, 4 the DAY, 5 FADE, 6 FADED ones (bits), 7 CELLS (bits) that anybody KNOWS, "
            + "8 ACTS that can be undone, 9 bytes on the tape. BAD.");
        PaperHouses least = new PaperHouses();
        PaperHouses most = Due.of(MOST);
        for (int r = 0; r < 8; r++) most.row(r, 0, 0);
        for (int k = 0; k < 6; k++) most.put(0, k);
        for (int c = 0; c < 24; c++) most.fade(c, 1);
        for (int b = 0; b < 90; b++) most.feed(b);
        int[] due = {8, 24, 5, 5, 0, 24, 0xFFFFFF, 0xFFFFFF, 24, 90};
        for (int what = 0; what < 10; what++) {
            DUE.is("at least, count(" + what + ")", least.count(what), 0);
            DUE.is("at most, count(" + what + ")", most.count(what), due[what]);
        }
        int[] none = {-1, 10, MAX, MIN};
        for (int what : none) {
            DUE.is("count(" + what + ")", least.count(what), BAD);
            DUE.is("count(" + what + ")", most.count(what), BAD);
        }
    }
}
