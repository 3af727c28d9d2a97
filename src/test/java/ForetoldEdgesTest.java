/** The edges that the document names for promises 17 to 30: what is foretold, found out, drawn, and kept in images. */
public final class ForetoldEdgesTest {
    private static final int NONE = PaperHouses.NONE, BAD = PaperHouses.BAD, STATE = PaperHouses.STATE;
    private static final int NULL = -1000011, PLACE = -1000012;
    private static final int MAX = Integer.MAX_VALUE, MIN = Integer.MIN_VALUE;
    private static final int ALL_LAWS = (1 << 25) - 1;
    private static final String FIGURES_OF_24 = "abcdefghijabcdefghijabcd";
    private static final String MOST = "q7;p" + FIGURES_OF_24 + ";x2;x7;x8;x15;x23;l0,1;d5,0;s3,1;o1,0;b4,1;";
    private static final String SIX = "q0;pabcdef;";
    private static final int[] NO_BIT = {-1, 2, MAX, MIN};
    private static final int[] NOBODY = {-1, 5, MAX, MIN};
    private static final Due DUE = new Due();

    public static void main(String[] args) {
        daysOn();
        daysOnThatAreNone();
        allCellsKnown();
        firstOfAll();
        alike();
        goesOn();
        fewestTogether();
        beyondThePicture();
        piecesThatFit();
        piecesThatAreNone();
        roomForAll();
        roomByNoNumber();
        rents();
        rentsOfNone();
        everythingFits();
        nothingFits();
        whatFitsIsWhatComes();
        fitsThatAreNone();
        fractions();
        settledIsWhatComes();
        settledByNoNumber();
        drawnIsWhatComes();
        drawnWalls();
        drawnAtItsEnds();
        imagesThereAre();
        imagesStay();
        whatAnImageIsOf();
        DUE.end();
    }

    private static void daysOn() {
        DUE.says("FORETOLD (nothing changes) d DAYS on (0 to 60): the HOUSE of one; what one KNOWS (bits).");
        for (int f = 0; f < 5; f++) {
            PaperHouses x = Due.of(MOST);
            PaperHouses y = Due.of(MOST);
            for (int d = 0; d <= 60; d++) {
                DUE.is("house of " + f + ", " + d + " days on", x.ahead(f, d, 0), y.folk(f, 0));
                DUE.is("known by " + f + ", " + d + " days on", x.ahead(f, d, 1), y.folk(f, 2));
                y.days(1);
            }
            DUE.is("the day is as it was", x.count(4), 0);
            DUE.is("nothing is faded", x.count(6), 0);
            DUE.is("nobody knows anything", x.count(7), 0);
        }
    }

    private static void daysOnThatAreNone() {
        DUE.says("The HOUSE (what = 0), what one KNOWS (1), d DAYS on. BAD.");
        PaperHouses x = Due.of(MOST);
        int[] none = {-1, 61, 62, MAX, MIN};
        for (int d : none) {
            DUE.is("ahead(0, " + d + ", 0)", x.ahead(0, d, 0), BAD);
            DUE.is("ahead(0, " + d + ", 1)", x.ahead(0, d, 1), BAD);
        }
        for (int what : NO_BIT) DUE.is("ahead(0, 0, " + what + ")", x.ahead(0, 0, what), BAD);
        for (int f : NOBODY) DUE.is("ahead(" + f + ", 0, 0)", x.ahead(f, 0, 0), BAD);
        DUE.is("nobody", Due.of(SIX).ahead(0, 0, 0), BAD);
        DUE.is("no paper", new PaperHouses().ahead(0, 0, 0), BAD);
    }

    private static void allCellsKnown() {
        DUE.says("ALL: behind how many DAYS (0 to 60) one KNOWS all CELLS first; NONE.");
        String walls = "x1;x2;x3;x4;x5;";
        PaperHouses x = Due.of(SIX + walls + "l0,1;l0,0;l5,0;l1,1;s0,0;");
        int[] due = {10, 10, 10, 9, NONE};
        for (int f = 0; f < 5; f++) DUE.is("all(" + f + ")", x.all(f), due[f]);
        x.put(0, 0);
        DUE.is("but for the house that is known", x.all(0), 5);
        for (int h = 1; h < 6; h++) x.put(0, h);
        DUE.is("known by now", x.all(0), 0);
        for (int c = 0; c < 6; c++) x.fade(c, 1);
        DUE.is("known yet", x.all(0), 0);
        DUE.is("never", x.all(1), NONE);
        DUE.is("a cell fades behind one's back", Due.of("q1;pabcdef;x3;l0,1;").all(0), NONE);
        DUE.is("it is seen ahead of that", Due.of("q1;pabcdef;x3;l1,0;").all(0), 2);
        DUE.is("24 cells", Due.of("q1;p" + FIGURES_OF_24 + ";l0,0;").all(0), 1);
        DUE.is("a doctor, ever more", Due.of(SIX + "o0,0;").all(0), 1);
        for (int f : NOBODY) DUE.is("all(" + f + ")", x.all(f), BAD);
        DUE.is("nobody", Due.of(SIX).all(0), BAD);
        DUE.is("no paper", new PaperHouses().all(0), BAD);
    }

    private static void first(String text, int who, int days) {
        PaperHouses x = Due.of(text);
        DUE.is("who, " + text, x.first(0), who);
        DUE.is("behind how many, " + text, x.first(1), days);
    }

    private static void firstOfAll() {
        DUE.says("FIRST: who does first, of several the least; behind how many DAYS; NONE.");
        first(SIX, NONE, NONE);
        first(SIX + "s0,0;", NONE, NONE);
        first(SIX + "l0,0;l0,1;", 0, 1);
        first(SIX + "s0,0;l0,0;l0,0;", 1, 1);
        first(SIX + "x1;x2;x3;x4;x5;l0,1;s0,0;l1,1;l1,1;l5,0;", 2, 9);
        first(SIX + "x1;x2;x3;x4;x5;s0,0;s0,0;s0,0;s0,0;l5,1;", 4, 10);
        PaperHouses x = Due.of(SIX + "l0,0;l0,0;");
        x.put(1, 0);
        DUE.is("who by now", x.first(0), 1);
        DUE.is("behind none", x.first(1), 0);
        x.put(0, 0);
        DUE.is("of several the least", x.first(0), 0);
        for (int what : NO_BIT) {
            DUE.is("first(" + what + ")", x.first(what), BAD);
            DUE.is("no paper ahead of BAD", new PaperHouses().first(what), STATE);
        }
        DUE.is("no paper", new PaperHouses().first(0), STATE);
        DUE.is("no paper", new PaperHouses().first(1), STATE);
    }

    // One knows the cells with even numbers, the other those with odd ones.
    private static PaperHouses parted() {
        PaperHouses x = Due.of("q0;p" + FIGURES_OF_24 + ";s0,0;l0,0;l0,0;");
        x.put(0, 0);
        for (int c = 0; c < 24; c += 2) x.fade(c, 1);
        x.put(1, 0);
        return x;
    }

    private static void alike() {
        DUE.says("ALIKE: CELLS (bits) that two KNOW.");
        PaperHouses x = parted();
        DUE.is("none", x.both(0, 1, 0), 0);
        DUE.is("who knows nothing", x.both(0, 2, 0), 0);
        for (int c = 0; c < 24; c += 2) x.fade(c, 0);
        x.put(2, 0);
        DUE.is("all of one", x.both(0, 2, 0), 0x555555);
        DUE.is("all of the other", x.both(2, 1, 0), 0xAAAAAA);
        x.put(1, 0);
        DUE.is("all there are", x.both(1, 2, 0), 0xFFFFFF);
        DUE.says("ALIKE (what = 0), GOES ON (1). BAD (one and the same, too).");
        int[][] none = {{0, 0}, {1, 1}, {2, 2}, {3, 3}, {-1, 0}, {0, -1}, {3, 0}, {0, 3}, {-1, -1}, {MAX, 0}, {0, MAX}, {MIN, 0}, {0, MIN}};
        for (int[] n : none) {
            DUE.is("both(" + n[0] + ", " + n[1] + ", 0)", x.both(n[0], n[1], 0), BAD);
            DUE.is("both(" + n[0] + ", " + n[1] + ", 1)", x.both(n[0], n[1], 1), BAD);
        }
        for (int what : NO_BIT) DUE.is("both(0, 1, " + what + ")", x.both(0, 1, what), BAD);
        DUE.is("no paper", new PaperHouses().both(0, 1, 0), BAD);
    }

    private static void goesOn() {
        DUE.says("GOES ON: how many times one KNOWS a CELL and the other the next one, which the one does not.");
        PaperHouses x = parted();
        DUE.is("from even to odd ones", x.both(0, 1, 1), 12);
        DUE.is("nothing is next to the last one", x.both(1, 0, 1), 11);
        DUE.is("to who knows nothing", x.both(0, 2, 1), 0);
        DUE.is("from who knows nothing", x.both(2, 0, 1), 0);
        for (int c = 0; c < 24; c += 2) x.fade(c, 0);
        x.put(2, 0);
        DUE.is("to who knows all", x.both(0, 2, 1), 12);
        DUE.is("from who knows all", x.both(2, 0, 1), 0);
        PaperHouses y = Due.of(SIX + "x5;l0,0;l1,0;");
        y.put(0, 0);
        y.put(1, 1);
        DUE.is("into the last cell", y.both(0, 1, 1), 1);
        DUE.is("not around", y.both(1, 0, 1), 0);
    }

    private static void together(PaperHouses x, String when, int many, int which) {
        DUE.is(when + ", how many", x.together(0), many);
        DUE.is(when + ", which", x.together(1), which);
    }

    private static void fewestTogether() {
        DUE.says("TOGETHER: the fewest FOLK who KNOW all CELLS together by now: how many; which (bits), of several the least; NONE.");
        together(Due.of(SIX), "nobody", NONE, NONE);
        together(Due.of(SIX + "l0,0;"), "not yet", NONE, NONE);
        PaperHouses x = Due.of(SIX + "x1;x2;x3;x4;l0,0;l1,0;l2,0;l3,0;l4,0;");
        for (int f = 0; f < 5; f++) {
            together(x, "one house lacks", NONE, NONE);
            x.put(f, f);
        }
        together(x, "all five", 5, 31);
        for (int h = 0; h < 4; h++) x.put(4, h);
        together(x, "the last one alone", 1, 16);
        for (int h = 1; h < 5; h++) x.put(0, h);
        together(x, "of several the least", 1, 1);
        PaperHouses y = Due.of(SIX + "x1;x2;x3;l0,0;l0,0;l0,0;l0,0;");
        int[][] puts = {{0, 0}, {0, 1}, {3, 2}, {3, 3}, {1, 0}, {1, 2}, {2, 1}, {2, 3}};
        for (int[] p : puts) y.put(p[0], p[1]);
        together(y, "1 and 2 are less than 0 and 3", 2, 6);
        y.undo();
        together(y, "0 and 3", 2, 9);
        PaperHouses doubled = Due.of(SIX + "x3;d0,0;d1,0;");
        doubled.put(0, 0);
        together(doubled, "one of two", NONE, NONE);
        doubled.put(1, 1);
        together(doubled, "cells that both know", 2, 3);
        PaperHouses z = parted();
        together(z, "24 cells", 2, 3);
        z.undo();
        together(z, "not yet", NONE, NONE);
        for (int what : NO_BIT) {
            DUE.is("together(" + what + ")", x.together(what), BAD);
            DUE.is("no paper ahead of BAD", new PaperHouses().together(what), STATE);
        }
        DUE.is("no paper", new PaperHouses().together(0), STATE);
        DUE.is("no paper", new PaperHouses().together(1), STATE);
    }

    private static void beyondThePicture() {
        DUE.says("BEYOND: the FIGURE that a CELL (0 to 99, beyond the last one, too) has by that");
        PaperHouses x = Due.of("q0;pabcabcab;x4;l0,0;l0,0;l1,0;");
        for (int c = 0; c < 100; c++) DUE.is("knows nothing, " + c, x.beyond(0, c), NONE);
        x.put(0, 0);
        x.put(2, 1);
        for (int c = 0; c < 100; c++) DUE.is("goes on by 3, " + c, x.beyond(0, c), c % 3);
        for (int c = 0; c < 100; c++) DUE.is("what is ahead, by 3, " + c, x.beyond(2, c), c % 3);
        x.fade(0, 1);
        x.fade(2, 1);
        x.fade(3, 1);
        x.put(1, 0);
        for (int c = 0; c < 20; c++) DUE.is("one cell alone, " + c, x.beyond(1, c), 1);
        DUE.says("that of a CELL that one KNOWS whose number leaves the same by PERIOD; NONE: one KNOWS none such.");
        PaperHouses y = Due.of("q0;pabcdefghijab;l0,0;");
        int[] faded = {0, 2, 3, 5, 6, 7, 8, 9, 10, 11};
        for (int c : faded) y.fade(c, 1);
        y.put(0, 0);
        DUE.is("cells 1 and 4", y.folk(0, 4), 2);
        y.fade(3, 0);
        y.put(0, 0);
        DUE.is("cells 1, 3 and 4", y.folk(0, 4), 4);
        for (int c = 0; c < 100; c++) DUE.is("by 4, " + c, y.beyond(0, c), new int[] {4, 1, NONE, 3}[c % 4]);
        int[] none = {-1, 100, 101, MAX, MIN};
        for (int c : none) DUE.is("beyond(0, " + c + ")", y.beyond(0, c), BAD);
        int[] nobody = {-1, 1, MAX, MIN};
        for (int f : nobody) DUE.is("beyond(" + f + ", 0)", y.beyond(f, 0), BAD);
        DUE.is("no paper", new PaperHouses().beyond(0, 0), BAD);
    }

    private static void piece(PaperHouses x, int i, int n, int many, int first) {
        DUE.is("piece(0, " + i + ", " + n + ", 0)", x.piece(0, i, n, 0), many);
        DUE.is("piece(0, " + i + ", " + n + ", 1)", x.piece(0, i, n, 1), first);
    }

    private static void piecesThatFit() {
        DUE.says("FITS: of places in the picture (CELLS from it on, all in it) those in which it is so: how many; the first; NONE.");
        PaperHouses x = Due.of("q0;paaaaaaaaaaaaaaaaaaaaaaaj;");
        Due.lay(x, 0, 0, 0, 0, 0, 0, 0, 0, 0, 0, 0, 0, 9);
        for (int n = 1; n <= 11; n++) piece(x, 0, n, 24 - n, 0);
        for (int n = 1; n <= 12; n++) piece(x, 12 - n, n, 1, 24 - n);
        PaperHouses six = Due.of(SIX);
        Due.lay(six, 0, 0, 1, 2, 3, 4, 5, 0, 1, 2, 3, 4, 5);
        piece(six, 0, 6, 1, 0);
        piece(six, 5, 1, 1, 5);
        piece(six, 0, 7, 0, NONE);
        piece(six, 5, 2, 0, NONE);
        piece(six, 0, 12, 0, NONE);
        six.fade(0, 1);
        piece(six, 0, 6, 1, 0);
        int[] untold = {-1, 10, 256, -256, 65536, MAX, MIN, 6};
        for (int v : untold) {
            six.set(0, 0, v);
            piece(six, 0, 1, 0, NONE);
        }
        six.row(0, 0, 1);
        six.set(0, 0, 256 + 5);
        piece(six, 0, 1, 1, 5);
    }

    private static void piecesThatAreNone() {
        DUE.says("BAD: ROW, n, what; STATE: no PAPER (ahead of BAD); NULL; PLACE.");
        PaperHouses x = Due.of(SIX);
        x.row(0, 2, 12);
        x.row(7, 2, 40);
        DUE.is("12 of 12", x.piece(0, 0, 12, 0), 0);
        DUE.is("the last 12 of 40", x.piece(7, 28, 12, 0), 0);
        DUE.is("the last one of 40", x.piece(7, 39, 1, 0), 1);
        int[] numbers = {0, 13, -1, MAX, MIN};
        for (int n : numbers) DUE.is("n " + n, x.piece(7, 0, n, 0), BAD);
        for (int what : NO_BIT) DUE.is("what " + what, x.piece(7, 0, 1, what), BAD);
        int[] rows = {-1, 8, MAX, MIN};
        for (int r : rows) DUE.is("row " + r, x.piece(r, 0, 1, 0), BAD);
        int[][] places = {{-1, 1}, {12, 1}, {1, 12}, {11, 2}, {MAX, 1}, {MAX, 12}, {MIN, 1}, {MIN, 12}};
        for (int[] p : places) DUE.is("place " + p[0] + ", " + p[1], x.piece(0, p[0], p[1], 0), PLACE);
        DUE.is("a place of 40", x.piece(7, 29, 12, 0), PLACE);
        DUE.is("BAD ahead of a place", x.piece(0, 12, 13, 0), BAD);
        DUE.is("missing", x.piece(1, 0, 1, 1), NULL);
        x.row(1, 0, 0);
        DUE.is("a row of none", x.piece(1, 0, 1, 1), PLACE);
        PaperHouses bare = new PaperHouses();
        DUE.is("no paper", bare.piece(0, 0, 1, 0), STATE);
        DUE.is("no paper ahead of BAD", bare.piece(8, 0, 1, 0), STATE);
        DUE.is("no paper ahead of BAD", bare.piece(0, 0, 0, 0), STATE);
        DUE.is("no paper ahead of BAD", bare.piece(0, 0, 1, 2), STATE);
    }

    private static void rooms(String text, int... due) {
        PaperHouses x = Due.of(text);
        for (int k = 1; k <= 8; k++) DUE.is("room(" + k + ") of " + text, x.room(k), due[k - 1]);
    }

    private static void roomForAll() {
        DUE.says("ROOM by k (1 to 8): the fewest moves of one WALL by one CELL each (WALLS never in one place, nor in front of CELL 0) "
            + "so that no HOUSE has fewer CELLS than k: how many; NONE.");
        String most = "q0;p" + FIGURES_OF_24 + ";";
        String fewer = "q0;p" + FIGURES_OF_24.substring(1) + ";";
        rooms(SIX, 0, 0, 0, 0, 0, 0, NONE, NONE);
        rooms("q0;pabcdefgh;", 0, 0, 0, 0, 0, 0, 0, 0);
        rooms(SIX + "x1;x2;x3;x4;x5;", 0, NONE, NONE, NONE, NONE, NONE, NONE, NONE);
        rooms(SIX + "x1;", 0, 1, 2, NONE, NONE, NONE, NONE, NONE);
        rooms(SIX + "x5;", 0, 1, 2, NONE, NONE, NONE, NONE, NONE);
        rooms(SIX + "x1;x2;", 0, 3, NONE, NONE, NONE, NONE, NONE, NONE);
        rooms(SIX + "x4;x5;", 0, 3, NONE, NONE, NONE, NONE, NONE, NONE);
        rooms(SIX + "x1;x5;", 0, 2, NONE, NONE, NONE, NONE, NONE, NONE);
        rooms(most + "x8;x16;", 0, 0, 0, 0, 0, 0, 0, 0);
        rooms(most + "x1;x2;", 0, 3, 6, 9, 12, 15, 18, 21);
        rooms(most + "x22;x23;", 0, 3, 6, 9, 12, 15, 18, 21);
        rooms(fewer + "x1;x2;", 0, 3, 6, 9, 12, 15, 18, NONE);
        rooms(most + "x1;x2;x3;x4;x5;", 0, 15, 30, 45, NONE, NONE, NONE, NONE);
        rooms(most + "x19;x20;x21;x22;x23;", 0, 15, 30, 45, NONE, NONE, NONE, NONE);
        rooms(most + "x4;x8;x12;x16;x20;", 0, 0, 0, 0, NONE, NONE, NONE, NONE);
        rooms(fewer + "x4;x8;x12;x16;x20;", 0, 0, 0, NONE, NONE, NONE, NONE, NONE);
        rooms(most + "x11;x12;x13;", 0, 2, 4, 6, 8, 10, NONE, NONE);
    }

    private static void roomByNoNumber() {
        DUE.says("ROOM; NONE. BAD; STATE: no PAPER (ahead of BAD).");
        PaperHouses x = Due.of("q0;p" + FIGURES_OF_24 + ";x1;");
        x.move(0, 1);
        DUE.is("by the walls that stand now", x.room(3), 1);
        DUE.is("they stand there yet", x.house(1, 0), 2);
        int[] none = {0, 9, -1, MAX, MIN};
        for (int k : none) {
            DUE.is("room(" + k + ")", x.room(k), BAD);
            DUE.is("no paper ahead of BAD", new PaperHouses().room(k), STATE);
        }
        DUE.is("no paper", new PaperHouses().room(1), STATE);
        DUE.is("no paper", new PaperHouses().room(8), STATE);
    }

    private static void rents() {
        DUE.says("RENT of a HOUSE, n in all (0 to 999): n times how many CELLS it has, by how many there are (cut), "
            + "what is over 1 each to the first HOUSES.");
        int[] sizes = {2, 5, 1, 7, 8, 1};
        PaperHouses x = Due.of(MOST);
        for (int n = 0; n < 1000; n++) {
            if (n % 50 == 0) x = Due.of(MOST);
            int over = n;
            for (int size : sizes) over -= n * size / 24;
            int sum = 0;
            for (int h = 0; h < 6; h++) {
                int rent = x.rent(h, n);
                DUE.is("rent(" + h + ", " + n + ")", rent, n * sizes[h] / 24 + (h < over ? 1 : 0));
                sum += rent;
            }
            DUE.is("in all", sum, n);
        }
        PaperHouses one = Due.of(SIX);
        int[] whole = {0, 1, 5, 6, 7, 999};
        for (int n : whole) DUE.is("one house", one.rent(0, n), n);
        PaperHouses even = Due.of(SIX + "x1;x2;x3;x4;x5;");
        for (int h = 0; h < 6; h++) {
            DUE.is("five over", even.rent(h, 5), h < 5 ? 1 : 0);
            DUE.is("none over", even.rent(h, 6), 1);
            DUE.is("one over", even.rent(h, 7), h < 1 ? 2 : 1);
        }
    }

    private static void rentsOfNone() {
        DUE.says("RENT. BAD.");
        PaperHouses x = Due.of(MOST);
        int[] houses = {-1, 6, MAX, MIN};
        for (int h : houses) DUE.is("house " + h, x.rent(h, 1), BAD);
        int[] none = {-1, 1000, MAX, MIN};
        for (int n : none) DUE.is("n " + n, x.rent(0, n), BAD);
        DUE.is("the last house", x.rent(5, 999), 41);
        DUE.is("no paper", new PaperHouses().rent(0, 0), BAD);
    }

    private static void fits(PaperHouses x, String when, int folk, int i, int n, int... due) {
        for (int what = 0; what < 4; what++) DUE.is(when + ", what " + what, x.fits(folk, 0, i, n, what), due[what]);
    }

    private static void everythingFits() {
        DUE.says("SORTS: KINDS (bits 1 to 5) of one by which it is so; STARTS: HOUSES (bits) one may be in now; WAYS (bits 0, 1); "
            + "FADES (0 to 24, bits).");
        PaperHouses x = Due.of("q0;pjihgfe;x3;l0,1;");
        for (int c = 0; c < 6; c++) x.fade(c, 1);
        x.row(0, 0, 40);
        fits(x, "one day", 0, 0, 1, 62, 3, 3, ALL_LAWS);
        x.put(0, 1);
        fits(x, "12 days, but for a boy", 0, 0, 12, 30, 3, 3, ALL_LAWS);
        fits(x, "12 days, by the last items", 0, 28, 12, 30, 3, 3, ALL_LAWS);
        PaperHouses six = Due.of("q0;pjihgfe;x1;x2;x3;x4;x5;l0,1;");
        for (int c = 0; c < 6; c++) six.fade(c, 1);
        six.row(0, 2, 12);
        fits(six, "six houses", 0, 0, 1, 62, 63, 3, ALL_LAWS);
        DUE.is("one house", oneHouse().fits(0, 0, 0, 1, 1), 1);
    }

    private static PaperHouses oneHouse() {
        PaperHouses x = Due.of(SIX + "l0,1;");
        Due.lay(x, 0, 6);
        return x;
    }

    private static void nothingFits() {
        DUE.says("A row tells how many CELLS one KNOWS behind each of n DAYS (1 to 12) from now on.");
        PaperHouses x = oneHouse();
        int[] untold = {-1, 7, 25, 262, 65542, MAX, MIN};
        for (int v : untold) {
            x.set(0, 0, v);
            fits(x, "item " + v, 0, 0, 1, 0, 0, 0, 0);
        }
        x.set(0, 0, 6);
        fits(x, "item 6", 0, 0, 1, 1 << 1 | 1 << 2 | 1 << 4 | 1 << 5, 1, 3, ALL_LAWS);
        x.put(0, 0);
        fits(x, "what is known by now counts", 0, 0, 1, 62, 1, 3, ALL_LAWS);
        PaperHouses last = Due.of("q0;p" + FIGURES_OF_24 + ";x12;l0,1;");
        Due.lay(last, 0, 12, 24, 24, 24, 24, 24, 24, 24, 24, 24, 24, 23);
        DUE.is("no law but none", last.fits(0, 0, 0, 11, 3), 1);
        DUE.is("the last of 12 is looked at", last.fits(0, 0, 0, 12, 3), 0);
        last.set(0, 1, 23);
        DUE.is("any law but none", last.fits(0, 0, 0, 2, 3), ALL_LAWS - 1);
        DUE.is("nothing has changed", last.count(7), 0);
    }

    // What would come of one who is otherwise is what comes of a paper that tells it otherwise.
    private static void whatFitsIsWhatComes() {
        DUE.says("SORTS (what = 0), STARTS (1), WAYS (2), FADES (3) by how many CELLS one KNOWS, n ITEMS of a ROW from i on.");
        String picture = ";pabacabadabac;x2;x5;x9;";
        for (int n = 1; n <= 12; n++) {
            for (int sort = 1; sort <= 5; sort++) {
                PaperHouses x = Due.of("q5" + picture + one(sort, 1, 1));
                int[] told = counts("q5" + picture + one(sort, 1, 1), n);
                Due.lay(x, 0, told);
                int[] due = new int[4];
                for (int k = 1; k <= 5; k++) due[0] |= same(told, "q5" + picture + one(k, 1, 1)) << k;
                for (int h = 0; h <= 3; h++) due[1] |= same(told, "q5" + picture + one(sort, h, 1)) << h;
                for (int way = 0; way <= 1; way++) due[2] |= same(told, "q5" + picture + one(sort, 1, way)) << way;
                for (int law = 0; law <= 24; law++) due[3] |= same(told, "q" + law + picture + one(sort, 1, 1)) << law;
                fits(x, "sort " + sort + ", " + n + " days", 0, 0, n, due);
            }
        }
    }

    private static String one(int sort, int house, int way) {
        return "ldsob".charAt(sort - 1) + "" + house + "," + way + ";";
    }

    private static int[] counts(String text, int n) {
        PaperHouses x = Due.of(text);
        int[] counts = new int[n];
        for (int d = 0; d < n; d++) counts[d] = Integer.bitCount(x.days(1));
        return counts;
    }

    private static int same(int[] told, String text) {
        return java.util.Arrays.equals(told, counts(text, told.length)) ? 1 : 0;
    }

    private static void fitsThatAreNone() {
        DUE.says("BAD: FOLK, ROW, n, what; NULL; PLACE.");
        PaperHouses x = Due.of(MOST);
        x.row(0, 2, 12);
        DUE.is("12 of 12", x.fits(4, 0, 0, 12, 3), 0);
        for (int f : NOBODY) DUE.is("folk " + f, x.fits(f, 0, 0, 1, 0), BAD);
        int[] rows = {-1, 8, MAX, MIN};
        for (int r : rows) DUE.is("row " + r, x.fits(0, r, 0, 1, 0), BAD);
        int[] numbers = {0, 13, -1, MAX, MIN};
        for (int n : numbers) DUE.is("n " + n, x.fits(0, 0, 0, n, 0), BAD);
        int[] whats = {-1, 4, MAX, MIN};
        for (int what : whats) DUE.is("what " + what, x.fits(0, 0, 0, 1, what), BAD);
        int[][] places = {{-1, 1}, {12, 1}, {1, 12}, {11, 2}, {MAX, 1}, {MAX, 12}, {MIN, 1}, {MIN, 12}};
        for (int[] p : places) DUE.is("place " + p[0] + ", " + p[1], x.fits(0, 0, p[0], p[1], 0), PLACE);
        DUE.is("BAD ahead of a place", x.fits(0, 0, 12, 13, 0), BAD);
        DUE.is("missing", x.fits(0, 1, 0, 1, 0), NULL);
        x.row(1, 0, 0);
        DUE.is("a row of none", x.fits(0, 1, 0, 1, 0), PLACE);
        DUE.is("nobody", Due.of(SIX).fits(0, 0, 0, 1, 0), BAD);
        DUE.is("no paper", new PaperHouses().fits(0, 0, 0, 1, 0), BAD);
    }

    private static void fraction(PaperHouses x, int cell, int d, int c, int above, int below) {
        String call = "settled(0, " + cell + ", " + d + ", " + c + ")";
        DUE.is(call + " above", x.settled(0, cell, d, c, 0), above);
        DUE.is(call + " below", x.settled(0, cell, d, c, 1), below);
    }

    private static void fractions() {
        DUE.says("fractions, told as two numbers in lowest terms (0 is 0 by 1)");
        PaperHouses x = Due.of(SIX + "x3;l0,1;");
        int[][] stays = {{1, 1}, {9, 10}, {4, 5}, {7, 10}, {3, 5}, {1, 2}, {2, 5}, {3, 10}, {1, 5}, {1, 10}, {0, 1}};
        for (int c = 0; c <= 10; c++) {
            fraction(x, 3, 1, c, stays[c][0], stays[c][1]);
            fraction(x, 2, 1, c, 0, 1);
            fraction(x, 5, 1, c, 1, 1);
            fraction(x, 3, 0, c, 0, 1);
        }
        DUE.says("(but not where the next one then stands, nor behind the last CELL; the last WALL is looked at first)");
        PaperHouses last = Due.of(SIX + "x5;l0,1;");
        fraction(last, 5, 1, 10, 1, 1);
        PaperHouses packed = Due.of(SIX + "x1;x2;x3;x4;x5;l0,1;");
        for (int c = 0; c <= 10; c++) fraction(packed, 1, 1, c, 1, 1);
        PaperHouses five = Due.of("q0;pabcdefg;x1;x2;x3;x4;x5;l0,1;");
        fraction(five, 1, 1, 10, 0, 1);
        fraction(five, 1, 1, 1, 99999, 100000);
        fraction(five, 1, 1, 9, 40951, 100000);
        fraction(five, 2, 1, 9, 6561, 10000);
        fraction(five, 1, 1, 5, 31, 32);
        PaperHouses open = Due.of(SIX + "l0,1;");
        fraction(open, 0, 1, 5, 1, 1);
        fraction(open, 0, 0, 5, 0, 1);
    }

    // Each way in which walls may settle is moved by hand, and has its share of all.
    private static void settledIsWhatComes() {
        DUE.says("SETTLED: each WALL stands one CELL farther up by c of 10 now, each by itself");
        int[][] asked = {{0, 2, 1, 3}, {0, 8, 2, 7}, {1, 7, 3, 4}, {1, 23, 20, 5}, {2, 8, 20, 6}, {3, 15, 9, 1}, {4, 23, 2, 9}, {4, 2, 20, 2}, {0, 7, 0, 3}};
        for (int[] a : asked) {
            long above = 0;
            for (int drawn = 0; drawn < 32; drawn++) {
                PaperHouses y = Due.of(MOST);
                long share = 1;
                for (int w = 4; w >= 0; w--) {
                    if ((drawn >> w & 1) == 1) y.move(w, 1);
                    share *= (drawn >> w & 1) == 1 ? a[3] : 10 - a[3];
                }
                above += share * (y.ahead(a[0], a[2], 1) >> a[1] & 1);
            }
            long common = java.math.BigInteger.valueOf(above).gcd(java.math.BigInteger.valueOf(100000)).longValue();
            PaperHouses x = Due.of(MOST);
            String call = "settled(" + a[0] + ", " + a[1] + ", " + a[2] + ", " + a[3] + ")";
            DUE.is(call + " above", x.settled(a[0], a[1], a[2], a[3], 0), (int) (above / common));
            DUE.is(call + " below", x.settled(a[0], a[1], a[2], a[3], 1), (int) (100000 / common));
        }
    }

    private static void settledByNoNumber() {
        DUE.says("SETTLED (c 0 to 10): above (what = 0), below (1). BAD.");
        PaperHouses x = Due.of(MOST);
        for (int f : NOBODY) DUE.is("folk " + f, x.settled(f, 0, 0, 0, 0), BAD);
        int[] cells = {-1, 24, MAX, MIN};
        for (int c : cells) DUE.is("cell " + c, x.settled(0, c, 0, 0, 0), BAD);
        int[] days = {-1, 21, MAX, MIN};
        for (int d : days) DUE.is("d " + d, x.settled(0, 0, d, 0, 0), BAD);
        int[] tenths = {-1, 11, MAX, MIN};
        for (int c : tenths) DUE.is("c " + c, x.settled(0, 0, 0, c, 0), BAD);
        for (int what : NO_BIT) DUE.is("what " + what, x.settled(0, 0, 0, 0, what), BAD);
        DUE.is("the last cell, the last day, c at most", x.settled(4, 23, 20, 10, 1), 1);
        DUE.is("nobody", Due.of(SIX).settled(0, 0, 0, 0, 0), BAD);
        DUE.is("no paper", new PaperHouses().settled(0, 0, 0, 0, 0), BAD);
    }

    private static void drawnIsWhatComes() {
        DUE.says("ahead of each X becomes the rest of (X times 16807) by 2147483647; the CELL that is the rest of X by how many there are "
            + "is FADED, or made new, if it was; the WALL that is the rest of X by how many there are goes one CELL up, if X by 5 leaves 0, "
            + "and it may; then the DAY: how many CELLS anybody KNOWS then; how many are FADED.");
        String[] texts = {MOST, "q0;pabcdefg;x1;x2;x6;s1,1;o0,0;", SIX, SIX + "x5;d0,0;", SIX + "x1;x2;x3;x4;x5;b0,1;"};
        int[] seeds = {1, 2, 5, 127773, 999998, 999999};
        for (String text : texts) {
            for (int seed : seeds) drawn(text, seed);
        }
    }

    // Below 127773 a seed that leaves 0 by 5 draws such an X at once, so that a wall goes up ahead of the first day.
    private static void drawnWalls() {
        DUE.says("goes one CELL up, if X by 5 leaves 0, and it may");
        String[] texts = {SIX + "x3;l0,1;", SIX + "x5;l0,1;", SIX + "x3;x4;l0,1;l1,1;", "q0;p" + FIGURES_OF_24 + ";x4;x8;x12;x16;x20;l0,1;l2,1;"};
        for (String text : texts) {
            for (int seed = 1; seed <= 60; seed++) drawn(text, seed);
        }
        DUE.is("wall 0 goes from 3 to 4, cell 5 fades", Due.of(SIX + "x3;l0,1;").drawn(1, 5, 0), 1);
        DUE.is("wall 0 stays, cell 1 fades", Due.of(SIX + "x3;l0,1;").drawn(1, 1, 0), 3);
        DUE.is("behind the last cell it may not", Due.of(SIX + "x5;l0,1;").drawn(1, 10, 0), 1);
    }

    private static void drawn(String text, int seed) {
        PaperHouses x = Due.of(text);
        PaperHouses y = Due.of(text);
        long drawn = seed;
        for (int n = 0; n <= 60; n++) {
            String call = "drawn(" + n + ", " + seed + ") of " + text;
            DUE.is(call + ", known", x.drawn(n, seed, 0), Integer.bitCount(y.count(7)));
            DUE.is(call + ", faded", x.drawn(n, seed, 1), Integer.bitCount(y.count(6)));
            drawn = drawn * 16807 % 2147483647;
            int cell = (int) (drawn % x.count(1));
            y.fade(cell, 1 - y.cell(cell, 1));
            int walls = (text.length() - text.replace("x", "").length());
            if (drawn % 5 == 0 && walls > 0) y.move((int) (drawn % walls), 1);
            if (n < 60) y.days(1);
        }
        DUE.is("the day is as it was", x.count(4), 0);
        DUE.is("nothing is faded", x.count(6), 0);
    }

    private static void drawnAtItsEnds() {
        DUE.says("YEARS by a SEED (1 to 999999): how many anybody KNOWS (what = 0), how many are FADED (1). "
            + "BAD; STATE: no PAPER (ahead of BAD).");
        PaperHouses x = Due.of(MOST);
        x.fade(3, 1);
        x.put(0, 0);
        DUE.is("no days, known", x.drawn(0, 1, 0), 2);
        DUE.is("no days, faded", x.drawn(0, 999999, 1), 1);
        int[] days = {-1, 61, MAX, MIN};
        int[] seeds = {0, 1000000, -1, MAX, MIN};
        for (int n : days) {
            DUE.is("n " + n, x.drawn(n, 1, 0), BAD);
            DUE.is("no paper ahead of BAD", new PaperHouses().drawn(n, 1, 0), STATE);
        }
        for (int s : seeds) {
            DUE.is("seed " + s, x.drawn(1, s, 0), BAD);
            DUE.is("no paper ahead of BAD", new PaperHouses().drawn(1, s, 0), STATE);
        }
        for (int what : NO_BIT) {
            DUE.is("what " + what, x.drawn(1, 1, what), BAD);
            DUE.is("no paper ahead of BAD", new PaperHouses().drawn(1, 1, what), STATE);
        }
        DUE.is("no paper", new PaperHouses().drawn(60, 999999, 1), STATE);
    }

    private static void imagesThereAre() {
        DUE.says("An IMAGE (0, 1) is kept of the PAPER: 1. BAD; STATE: no PAPER.");
        int[] none = {-1, 2, MAX, MIN};
        PaperHouses x = new PaperHouses();
        for (int k : none) DUE.is("BAD ahead of no paper, image(" + k + ")", x.image(k), BAD);
        DUE.is("no paper", x.image(0), STATE);
        DUE.is("no paper", x.image(1), STATE);
        Due.read(x, SIX);
        for (int k : none) DUE.is("image(" + k + ")", x.image(k), BAD);
        DUE.says("(no ACT can be undone then): 1. BAD; STATE: none was kept.");
        for (int k : none) DUE.is("BAD ahead of none, restore(" + k + ")", x.restore(k), BAD);
        DUE.is("none was kept", x.restore(0), STATE);
        DUE.is("none was kept", x.restore(1), STATE);
        DUE.is("image", x.image(1), 1);
        DUE.is("the other was not kept", x.restore(0), STATE);
        DUE.is("this one was", x.restore(1), 1);
        DUE.is("image", x.image(0), 1);
        for (int k : none) DUE.is("restore(" + k + ")", x.restore(k), BAD);
        x.days(2);
        DUE.is("acts", x.count(8), 2);
        DUE.is("restore", x.restore(0), 1);
        DUE.is("no acts", x.count(8), 0);
        DUE.is("nothing can be undone", x.undo(), STATE);
        DUE.is("a paper with a fault leaves them", x.paper(), -1000100);
        DUE.is("both", x.restore(0) + x.restore(1), 2);
    }

    private static void imagesStay() {
        DUE.says("The PAPER is as an IMAGE kept it");
        PaperHouses x = Due.of(MOST);
        x.days(3);
        x.image(0);
        x.days(1);
        x.image(1);
        x.days(1);
        DUE.is("restore(0)", x.restore(0), 1);
        DUE.is("day", x.count(4), 3);
        x.move(0, 1);
        x.fade(1, 1);
        x.put(0, 0);
        x.days(5);
        DUE.is("restore(1)", x.restore(1), 1);
        DUE.is("day", x.count(4), 4);
        DUE.is("restore(0) again", x.restore(0), 1);
        DUE.is("day", x.count(4), 3);
        DUE.is("wall", x.house(1, 0), 2);
        DUE.is("not faded", x.cell(1, 1), 0);
        x.days(2);
        x.image(0);
        x.days(1);
        x.restore(0);
        DUE.is("kept over again", x.count(4), 5);
        x.restore(1);
        DUE.is("the other is as it was", x.count(4), 4);
        Due.read(x, SIX);
        DUE.is("from another paper", x.restore(0), 1);
        DUE.is("cells", x.count(1), 24);
        DUE.is("folk", x.count(3), 5);
        PaperHouses y = Due.of(MOST);
        y.days(5);
        for (int f = 0; f < 5; f++) {
            DUE.is("kind " + f, x.kind(f), y.kind(f));
            for (int what = 0; what < 5; what++) DUE.is("folk(" + f + ", " + what + ")", x.folk(f, what), y.folk(f, what));
        }
        for (int c = 0; c < 24; c++) {
            for (int what = 0; what < 4; what++) DUE.is("cell(" + c + ", " + what + ")", x.cell(c, what), y.cell(c, what));
        }
        DUE.is("it goes on", x.days(7), y.days(7));
        DUE.is("its law, too", x.count(6), y.count(6));
    }

    private static void whatAnImageIsOf() {
        DUE.says("An IMAGE (0, 1) is kept of the PAPER");
        PaperHouses x = Due.of(SIX + "l0,0;");
        x.image(0);
        Due.lay(x, 0, 4, 5);
        x.put(0, 0);
        x.ask(0, 1);
        Due.read(x, "q25;");
        Due.feed(x, "q1;");
        x.drop(5);
        x.restore(0);
        DUE.is("rows are no paper", x.piece(0, 0, 2, 1), 4);
        DUE.is("nor is the tape", x.count(9), 3);
        DUE.is("nor the latest fault", x.fault(), 2);
        DUE.is("nor the trace", x.trace(0), 21);
        DUE.is("known is what was known", x.folk(0, 2), 0);
        x.drop(5);
        x.restore(0);
        DUE.is("nor is status", x.status(), 1);
    }
}
