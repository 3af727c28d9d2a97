/** Promises 17 to 30: what is foretold, found out, drawn, and kept in images. */
public final class ForetoldTest {
    private static final int NONE = PaperHouses.NONE, BAD = PaperHouses.BAD, STATE = PaperHouses.STATE;
    private static final int NULL = -1000011, PLACE = -1000012;
    private static final int MAX = Integer.MAX_VALUE, MIN = Integer.MIN_VALUE;
    private static final String EIGHT = "pabcabcab;x3;x6;l0,1;d2,0;s1,1;o1,0;b0,0;";
    private static final Due DUE = new Due();

    public static void main(String[] args) {
        daysAhead();
        allAndFirst();
        alikeAndGoesOn();
        togetherTheyKnow();
        periods();
        pieces();
        roomForAll();
        rents();
        whatFits();
        settledWalls();
        drawnYears();
        images();
        nothingChanges();
        DUE.end();
    }

    private static void daysAhead() {
        PaperHouses x = Due.of("q2;" + EIGHT);
        int[][] houses = {{0, 1, 2, 1, 0, 1}, {2, 1, 0, 1, 2, 1}, {1, 2, 1, 0, 1, 2}, {1, 0, 1, 2, 1, 0}, {0, 1, 2, 1, 0, 1}};
        int[][] knows = {{0, 56, 248}, {0, 124, 126}, {0, 64, 80}, {0, 7, 55}, {0, 48, 176}};
        for (int f = 0; f < 5; f++) {
            for (int d = 0; d < 6; d++) DUE.is("house ahead", x.ahead(f, d, 0), houses[f][d]);
            for (int d = 0; d < 3; d++) DUE.is("known ahead", x.ahead(f, d, 1), knows[f][d]);
        }
        // Cells 0, 2, 4 and 6 fade in four days: what a lodger has not seen by then stays unknown.
        DUE.is("known far ahead", x.ahead(0, 60, 1), 250);
        int[][] bad = {{5, 0, 0}, {-1, 0, 0}, {0, -1, 0}, {0, 61, 0}, {0, 0, 2}, {0, 0, -1}, {0, MAX, 1}, {0, MIN, 1}};
        for (int[] b : bad) DUE.is("ahead", x.ahead(b[0], b[1], b[2]), BAD);
    }

    private static void allAndFirst() {
        PaperHouses x = Due.of("q0;" + EIGHT);
        int[] due = {4, 4, NONE, NONE, NONE};
        for (int f = 0; f < 5; f++) DUE.is("all(" + f + ")", x.all(f), due[f]);
        DUE.is("of several the least", x.first(0), 0);
        DUE.is("behind how many", x.first(1), 4);
        x.put(1, 0);
        x.put(1, 1);
        x.put(1, 2);
        DUE.is("by now", x.all(1), 0);
        DUE.is("who", x.first(0), 1);
        DUE.is("behind none", x.first(1), 0);
        DUE.is("no such one", x.all(5), BAD);
        DUE.is("no such one", x.all(-1), BAD);
        DUE.is("no such what", x.first(2), BAD);
        DUE.is("no such what", x.first(-1), BAD);
        DUE.is("no paper ahead of BAD", new PaperHouses().first(2), STATE);
        PaperHouses alone = Due.of("q0;pabcdef;");
        DUE.is("nobody", alone.first(0), NONE);
        DUE.is("nobody", alone.first(1), NONE);
        DUE.is("one house, one day", Due.of("q1;pabcdef;l0,0;").all(0), 1);
    }

    private static PaperHouses parted() {
        PaperHouses x = Due.of("q0;pabcdef;x2;x4;l0,0;l1,0;l2,0;d1,0;b0,0;");
        x.put(0, 0);
        x.put(2, 2);
        x.put(3, 1);
        return x;
    }

    private static void alikeAndGoesOn() {
        PaperHouses x = parted();
        x.put(1, 1);
        int[][] due = {{0, 1, 0, 1}, {1, 0, 0, 0}, {0, 3, 2, 1}, {3, 0, 2, 0}, {1, 3, 12, 1}, {3, 1, 12, 0}, {3, 2, 16, 1}, {2, 3, 16, 0},
            {4, 0, 0, 0}, {1, 2, 0, 1}};
        for (int[] d : due) {
            DUE.is("alike " + d[0] + ", " + d[1], x.both(d[0], d[1], 0), d[2]);
            DUE.is("goes on " + d[0] + ", " + d[1], x.both(d[0], d[1], 1), d[3]);
        }
        int[][] bad = {{0, 0, 0}, {4, 4, 1}, {5, 0, 0}, {0, 5, 0}, {-1, 0, 0}, {0, -1, 0}, {0, 1, 2}, {0, 1, -1}};
        for (int[] b : bad) DUE.is("both", x.both(b[0], b[1], b[2]), BAD);
    }

    private static void togetherTheyKnow() {
        PaperHouses x = parted();
        DUE.is("how many", x.together(0), 3);
        DUE.is("which", x.together(1), 13);
        x.put(1, 1);
        DUE.is("how many", x.together(0), 3);
        DUE.is("of several the least", x.together(1), 7);
        x.put(1, 2);
        DUE.is("fewer", x.together(0), 2);
        DUE.is("which", x.together(1), 3);
        x.undo();
        x.undo();
        x.undo();
        DUE.is("not all", x.together(0), NONE);
        DUE.is("not all", x.together(1), NONE);
        DUE.is("no such what", x.together(2), BAD);
        DUE.is("no paper ahead of BAD", new PaperHouses().together(2), STATE);
    }

    private static PaperHouses knowing(int cells) {
        PaperHouses x = Due.of("q0;pabcabcab;l0,0;");
        for (int c = 0; c < 8; c++) {
            if ((cells >> c & 1) == 0) x.fade(c, 1);
        }
        x.put(0, 0);
        return x;
    }

    private static void period(int cells, int period, int... figures) {
        PaperHouses x = knowing(cells);
        DUE.is("period of " + cells, x.folk(0, 4), period);
        for (int c = 0; c < 100; c++) DUE.is("beyond(0, " + c + ") by " + cells, x.beyond(0, c), figures[c % period]);
    }

    private static void periods() {
        period(0, 1, NONE);
        period(255, 3, 0, 1, 2);
        period(192, 2, 0, 1);
        period(9, 1, 0);
        period(34, 3, NONE, 1, 2);
        period(128, 1, 1);
        // Cells 1 and 3 leave the same by 2, so it takes 3.
        period(10, 3, 0, 1, NONE);
        PaperHouses x = Due.of("q0;pabcdefghijabcdefghijabcd;x1;l0,0;l1,0;");
        x.days(2);
        DUE.is("ten", x.folk(0, 4), 10);
        DUE.is("beyond", x.beyond(0, 99), 9);
        int[][] bad = {{2, 0}, {-1, 0}, {0, -1}, {0, 100}, {0, MAX}, {0, MIN}};
        for (int[] b : bad) DUE.is("beyond", x.beyond(b[0], b[1]), BAD);
        PaperHouses y = Due.of("q0;paaaaaaaaaaaaaaaaaaaaaaab;l0,0;");
        y.days(1);
        DUE.is("as many as there are", y.folk(0, 4), 24);
        DUE.is("beyond", y.beyond(0, 47), 1);
    }

    private static void pieces() {
        PaperHouses x = Due.of("q1;pabcabcab;");
        x.days(3);
        Due.lay(x, 0, 0, 1, 2, 0, 1, 2, 0, 1, 2, 7, -1, 256);
        int[][] due = {{0, 1, 3, 0}, {0, 2, 3, 0}, {0, 3, 2, 0}, {1, 3, 2, 1}, {2, 1, 2, 2}, {0, 8, 1, 0}, {1, 7, 1, 1}, {1, 8, 0, NONE},
            {0, 12, 0, NONE}, {9, 1, 0, NONE}, {10, 1, 0, NONE}, {11, 1, 0, NONE}, {2, 3, 2, 2}};
        for (int[] d : due) {
            DUE.is("how many from " + d[0] + ", " + d[1], x.piece(0, d[0], d[1], 0), d[2]);
            DUE.is("the first from " + d[0] + ", " + d[1], x.piece(0, d[0], d[1], 1), d[3]);
        }
        int[][] bad = {{-1, 0, 1, 0}, {8, 0, 1, 0}, {0, 0, 0, 0}, {0, 0, 13, 0}, {0, 0, 1, 2}, {0, 0, 1, -1}, {1, 0, 13, 0}, {0, 99, -1, 0}};
        for (int[] b : bad) DUE.is("piece", x.piece(b[0], b[1], b[2], b[3]), BAD);
        DUE.is("missing ahead of a place", x.piece(1, -1, 1, 0), NULL);
        int[][] places = {{-1, 1}, {12, 1}, {1, 12}, {MAX, 12}, {MIN, 1}};
        for (int[] p : places) DUE.is("place", x.piece(0, p[0], p[1], 0), PLACE);
        DUE.is("no paper ahead of BAD", new PaperHouses().piece(9, 0, 0, 9), STATE);
    }

    private static void roomForAll() {
        int[] due = {0, 6, NONE, NONE, NONE, NONE, NONE, NONE};
        PaperHouses x = Due.of("q0;pabcabcab;x1;x2;x3;");
        for (int k = 1; k <= 8; k++) DUE.is("room(" + k + ")", x.room(k), due[k - 1]);
        PaperHouses far = Due.of("q0;pabcdefghijabcdefghijabcd;x19;x20;x21;x22;x23;");
        int[] farDue = {0, 15, 30, 45, NONE, NONE, NONE, NONE};
        for (int k = 1; k <= 8; k++) DUE.is("room(" + k + ")", far.room(k), farDue[k - 1]);
        PaperHouses mid = Due.of("q0;pabcdefabcdef;x5;x6;x7;");
        DUE.is("both ways", mid.room(3), 2 + 0 + 2);
        PaperHouses open = Due.of("q0;pabcdefg;");
        DUE.is("one house", open.room(7), 0);
        DUE.is("one house", open.room(8), NONE);
        int[] bad = {0, 9, -1, MAX, MIN};
        for (int k : bad) DUE.is("room(" + k + ")", x.room(k), BAD);
        DUE.is("no paper ahead of BAD", new PaperHouses().room(0), STATE);
    }

    private static void rents() {
        PaperHouses x = Due.of("q0;pabcabcabcab;x3;x7;");
        int[][] due = {{100, 28, 36, 36}, {7, 2, 3, 2}, {0, 0, 0, 0}, {1, 1, 0, 0}, {2, 1, 1, 0}, {11, 3, 4, 4}, {999, 273, 363, 363}};
        for (int[] d : due) {
            for (int h = 0; h < 3; h++) DUE.is("rent(" + h + ", " + d[0] + ")", x.rent(h, d[0]), d[h + 1]);
        }
        DUE.is("one house", Due.of("q0;pabcdef;").rent(0, 999), 999);
        int[][] bad = {{3, 0}, {-1, 0}, {0, -1}, {0, 1000}, {MAX, 1}, {0, MIN}};
        for (int[] b : bad) DUE.is("rent", x.rent(b[0], b[1]), BAD);
    }

    private static void fits(PaperHouses x, int folk, int i, int n, int... due) {
        for (int what = 0; what < 4; what++) DUE.is("fits(" + folk + ", 0, " + i + ", " + n + ", " + what + ")", x.fits(folk, 0, i, n, what), due[what]);
    }

    private static void whatFits() {
        // Houses of 3, 3 and 2 cells; of the cells 0, 1, 2, 4, 5 and 7 rise.
        PaperHouses x = Due.of("q2;" + EIGHT);
        Due.lay(x, 0, 3, 5, 8, 2, 0, 5);
        // Three behind a day: a lodger who comes to house 1, from 0 up or from 2 by turning; cell 0 fades by any law.
        fits(x, 0, 0, 1, 1 << 1, 1 << 0 | 1 << 2, 1 << 0 | 1 << 1, (1 << 25) - 1);
        // Then two more, in house 2, or in house 0 without cell 0.
        fits(x, 0, 0, 2, 1 << 1, 1 << 0 | 1 << 2, 1 << 0 | 1 << 1, (1 << 25) - 1);
        fits(x, 0, 3, 1, 1 << 4 | 1 << 5, 1 << 1, 0, 0);
        fits(x, 0, 4, 1, 0, 0, 0, 0);
        fits(x, 0, 5, 1, 1 << 2, 0, 0, 0);
        int[][] bad = {{5, 0, 0, 1, 0}, {-1, 0, 0, 1, 0}, {0, 8, 0, 1, 0}, {0, -1, 0, 1, 0}, {0, 0, 0, 0, 0}, {0, 0, 0, 13, 0},
            {0, 0, 0, 1, 4}, {0, 0, 0, 1, -1}, {0, 1, -1, 13, 0}};
        for (int[] b : bad) DUE.is("fits", x.fits(b[0], b[1], b[2], b[3], b[4]), BAD);
        DUE.is("missing", x.fits(0, 1, -1, 1, 0), NULL);
        int[][] places = {{-1, 1}, {6, 1}, {1, 6}, {MAX, 12}, {MIN, 1}};
        for (int[] p : places) DUE.is("place", x.fits(0, 0, p[0], p[1], 0), PLACE);
        fades();
    }

    // The lodger sees cell 4, cell 5, cell 4 again, and on the fourth day what is left of cells 0 to 3.
    private static void fades() {
        PaperHouses x = Due.of("q0;pabcdef;x4;x5;l0,1;");
        Due.lay(x, 0, 1, 2, 2, 5, 6, 4);
        DUE.is("any law", x.fits(0, 0, 0, 3, 3), (1 << 25) - 1);
        // Cell 0 alone is faded of them if the law leaves 0 or 5 by 6.
        DUE.is("some laws", x.fits(0, 0, 0, 4, 3), 1 << 5 | 1 << 6 | 1 << 11 | 1 << 12 | 1 << 17 | 1 << 18 | 1 << 23 | 1 << 24);
        x.set(0, 3, 6);
        DUE.is("no fading", x.fits(0, 0, 0, 4, 3), 1);
    }

    private static void chance(PaperHouses x, int cell, int d, int c, int above, int below) {
        String call = "settled(0, " + cell + ", " + d + ", " + c + ")";
        DUE.is(call + " above", x.settled(0, cell, d, c, 0), above);
        DUE.is(call + " below", x.settled(0, cell, d, c, 1), below);
    }

    private static void settledWalls() {
        PaperHouses x = Due.of("q0;pabcdef;x3;l0,1;");
        chance(x, 3, 0, 3, 0, 1);
        chance(x, 3, 1, 3, 7, 10);
        chance(x, 3, 1, 0, 1, 1);
        chance(x, 3, 1, 10, 0, 1);
        chance(x, 3, 1, 5, 1, 2);
        chance(x, 3, 1, 4, 3, 5);
        chance(x, 2, 1, 3, 0, 1);
        chance(x, 4, 1, 3, 1, 1);
        chance(x, 3, 2, 3, 1, 1);
        PaperHouses close = Due.of("q0;pabcdef;x3;x4;l0,1;");
        chance(close, 3, 1, 3, 91, 100);
        chance(close, 4, 1, 3, 3, 10);
        PaperHouses stuck = Due.of("q0;pabcdef;x4;x5;l0,1;");
        chance(stuck, 4, 1, 10, 1, 1);
        chance(stuck, 5, 1, 10, 0, 1);
        PaperHouses open = Due.of("q0;pabcdef;l0,1;");
        chance(open, 5, 1, 7, 1, 1);
        PaperHouses five = Due.of("q0;pabcdefabcdef;x1;x2;x3;x4;x5;l0,1;");
        // Cell 1 is seen if wall 0 stays: all five must be drawn for it to move.
        chance(five, 1, 1, 1, 99999, 100000);
        int[][] bad = {{1, 0, 0, 0, 0}, {-1, 0, 0, 0, 0}, {0, 6, 0, 0, 0}, {0, -1, 0, 0, 0}, {0, 0, -1, 0, 0}, {0, 0, 21, 0, 0},
            {0, 0, 0, -1, 0}, {0, 0, 0, 11, 0}, {0, 0, 0, 0, 2}, {0, 0, 0, 0, -1}};
        for (int[] b : bad) DUE.is("settled", x.settled(b[0], b[1], b[2], b[3], b[4]), BAD);
    }

    private static void drawnYears() {
        PaperHouses x = Due.of("q0;pabcdef;x3;l0,1;");
        int[][] due = {{0, 1, 0, 0}, {1, 1, 3, 1}, {2, 1, 6, 0}, {1, 5, 1, 1}};
        for (int[] d : due) {
            DUE.is("known by drawn(" + d[0] + ", " + d[1] + ")", x.drawn(d[0], d[1], 0), d[2]);
            DUE.is("faded by drawn(" + d[0] + ", " + d[1] + ")", x.drawn(d[0], d[1], 1), d[3]);
        }
        int[][] bad = {{-1, 1, 0}, {61, 1, 0}, {1, 0, 0}, {1, 1000000, 0}, {1, -1, 0}, {1, 1, 2}, {1, 1, -1}, {MAX, MAX, 0}};
        for (int[] b : bad) DUE.is("drawn", x.drawn(b[0], b[1], b[2]), BAD);
        DUE.holds("the greatest seed", x.drawn(60, 999999, 1) >= 0);
        DUE.is("no paper ahead of BAD", new PaperHouses().drawn(-1, 0, 9), STATE);
        DUE.is("no walls, no folk", Due.of("q0;pabcdef;").drawn(60, 5, 0), 0);
    }

    private static void images() {
        PaperHouses x = new PaperHouses();
        int[] bad = {-1, 2, MAX, MIN};
        for (int k : bad) {
            DUE.is("image", x.image(k), BAD);
            DUE.is("restore", x.restore(k), BAD);
        }
        DUE.is("no paper", x.image(1), STATE);
        DUE.is("none kept", x.restore(1), STATE);
        Due.read(x, "q2;" + EIGHT);
        x.days(1);
        DUE.is("image", x.image(1), 1);
        DUE.is("the other was not kept", x.restore(0), STATE);
        x.days(5);
        x.move(0, 1);
        Due.read(x, "q0;paaaaaaa;b0,0;");
        x.days(2);
        DUE.is("image", x.image(0), 1);
        DUE.is("restore", x.restore(1), 1);
        int[] counts = {0, 8, 2, 5, 1, 2, 1, 127, 0, 0};
        for (int what = 0; what < 10; what++) DUE.is("count(" + what + ")", x.count(what), counts[what]);
        DUE.is("no act", x.undo(), STATE);
        DUE.is("it goes on", x.days(1), 255);
        DUE.is("knows", x.folk(1, 2), 126);
        DUE.is("kind", x.kind(4), 5);
        DUE.is("again", x.restore(1), 1);
        DUE.is("as kept", x.count(4), 1);
        DUE.is("the other", x.restore(0), 1);
        DUE.is("cells", x.count(1), 7);
        DUE.is("day", x.count(4), 2);
        DUE.is("kind", x.kind(0), 5);
    }

    private static void nothingChanges() {
        PaperHouses x = Due.of("q3;" + EIGHT);
        Due.lay(x, 0, 3, 5, 8);
        x.days(1);
        int[] before = new int[10];
        int[] folk = new int[25];
        for (int what = 0; what < 10; what++) before[what] = x.count(what);
        for (int k = 0; k < 25; k++) folk[k] = x.folk(k / 5, k % 5);
        for (int f = 0; f < 5; f++) {
            x.ahead(f, 60, 1);
            x.all(f);
            x.settled(f, 3, 20, 4, 0);
            for (int what = 0; what < 4; what++) x.fits(f, 0, 0, 3, what);
            x.ask(f, 0);
        }
        x.first(0);
        x.drawn(60, 77, 0);
        x.room(2);
        for (int what = 0; what < 10; what++) DUE.is("count(" + what + ") stays", x.count(what), before[what]);
        for (int k = 0; k < 25; k++) DUE.is("folk stay", x.folk(k / 5, k % 5), folk[k]);
    }
}
