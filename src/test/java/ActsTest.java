/** Promises 9 to 16 and 35: days, walls, cells, folk who are put elsewhere, undoing, and what is told of them. */
public final class ActsTest {
    private static final int BAD = PaperHouses.BAD, STATE = PaperHouses.STATE, FULL = PaperHouses.FULL;
    private static final int MAX = Integer.MAX_VALUE, MIN = Integer.MIN_VALUE;
    // Houses 0: cells 0 to 2, 1: 3 to 5, 2: 6 and 7.
    private static final String EIGHT = "q2;pabcabcab;x3;x6;l0,1;d2,0;s1,1;o1,0;b0,0;";
    private static final Due DUE = new Due();

    public static void main(String[] args) {
        sightsAtFirst();
        twoDays();
        oneHouse();
        lastDay();
        wallsMove();
        cellsFade();
        folkArePut();
        actsAreUndone();
        oldestActsAreForgotten();
        whatIsTold();
        DUE.end();
    }

    private static void folk(PaperHouses x, String when, int what, int... due) {
        for (int f = 0; f < due.length; f++) DUE.is(when + ": folk(" + f + ", " + what + ")", x.folk(f, what), due[f]);
    }

    private static void sightsAtFirst() {
        PaperHouses x = Due.of(EIGHT);
        folk(x, "at first", 0, 0, 2, 1, 1, 0);
        folk(x, "at first", 1, 1, 0, 1, 0, 0);
        folk(x, "at first", 2, 0, 0, 0, 0, 0);
        folk(x, "at first", 3, 7, 224, 16, 48, 7);
        folk(x, "at first", 4, 1, 1, 1, 1, 1);
        x.fade(0, 1);
        x.fade(4, 1);
        x.fade(5, 1);
        folk(x, "faded", 3, 6, 192, 0, 0, 7);
        x.fade(4, 0);
        folk(x, "made new", 3, 6, 192, 16, 16, 7);
        folk(x, "nobody knows by it", 2, 0, 0, 0, 0, 0);
    }

    private static void twoDays() {
        PaperHouses x = Due.of(EIGHT);
        DUE.is("days(1)", x.days(1), 127);
        folk(x, "day 1", 0, 1, 1, 2, 0, 1);
        folk(x, "day 1", 1, 1, 0, 1, 0, 1);
        folk(x, "day 1", 2, 56, 124, 64, 7, 48);
        DUE.is("faded", x.count(6), 1);
        DUE.is("day", x.count(4), 1);
        DUE.is("days(1)", x.days(1), 255);
        folk(x, "day 2", 0, 2, 0, 1, 1, 2);
        folk(x, "day 2", 1, 1, 0, 0, 1, 1);
        folk(x, "day 2", 2, 248, 126, 80, 55, 176);
        DUE.is("faded", x.count(6), 5);
        DUE.is("acts", x.count(8), 2);
        DUE.is("known", x.count(7), 255);
        PaperHouses y = Due.of(EIGHT);
        DUE.is("days(2)", y.days(2), 255);
        folk(y, "two at once", 2, 248, 126, 80, 55, 176);
        DUE.is("an act each", y.count(8), 2);
        int[] bad = {0, -1, 25, MAX, MIN};
        for (int n : bad) DUE.is("days(" + n + ")", y.days(n), BAD);
        DUE.is("no paper ahead of BAD", new PaperHouses().days(0), STATE);
    }

    private static void oneHouse() {
        PaperHouses x = Due.of("q0;pabcdef;l0,0;s0,1;");
        DUE.is("a day", x.days(1), 63);
        folk(x, "one house", 0, 0, 0);
        folk(x, "one house", 1, 1, 0);
        folk(x, "one house", 2, 63, 21);
        DUE.is("nothing fades", x.count(6), 0);
        x.days(1);
        folk(x, "one house", 1, 0, 1);
        PaperHouses alone = Due.of("q1;pabcdef;");
        DUE.is("without folk", alone.days(3), 0);
        DUE.is("cells fade", alone.count(6), 7);
    }

    private static void lastDay() {
        PaperHouses x = Due.of("q23;pabcdefg;l0,0;");
        for (int k = 0; k < 416; k++) x.days(24);
        DUE.is("day", x.count(4), 9984);
        DUE.is("beyond", x.days(16), FULL);
        DUE.is("nothing changes", x.count(4), 9984);
        DUE.is("BAD ahead of FULL", x.days(25), BAD);
        DUE.is("up to the last", x.days(15), 127);
        DUE.is("day", x.count(4), 9999);
        DUE.is("beyond", x.days(1), FULL);
        DUE.is("it goes on ahead", x.ahead(0, 60, 0), 0);
        x.undo();
        DUE.is("one more again", x.days(1), 127);
    }

    private static void wallsMove() {
        PaperHouses x = Due.of(EIGHT);
        DUE.is("up", x.move(0, 1), 4);
        DUE.is("up", x.move(0, 1), 5);
        DUE.is("another stands there", x.move(0, 1), STATE);
        DUE.is("up", x.move(1, 1), 7);
        DUE.is("behind the last cell", x.move(1, 1), STATE);
        DUE.is("down", x.move(1, 0), 6);
        DUE.is("another stands there", x.move(1, 0), STATE);
        for (int p = 4; p >= 1; p--) DUE.is("down", x.move(0, 0), p);
        DUE.is("cell 0", x.move(0, 0), STATE);
        DUE.is("acts, not what was refused", x.count(8), 8);
        int[][] bad = {{2, 0}, {-1, 0}, {MAX, 1}, {MIN, 1}, {0, 2}, {0, -1}};
        for (int[] b : bad) DUE.is("move(" + b[0] + ", " + b[1] + ")", x.move(b[0], b[1]), BAD);
        DUE.is("house 0", x.house(0, 1), 1);
        DUE.is("house 1", x.house(1, 1), 5);
        folk(x, "nobody knows by it", 2, 0, 0, 0, 0, 0);
        folk(x, "what is seen then", 3, 1, 224, 20, 54, 1);
    }

    private static void cellsFade() {
        PaperHouses x = Due.of(EIGHT);
        DUE.is("fade", x.fade(7, 1), 128);
        DUE.is("fade", x.fade(0, 1), 129);
        DUE.is("it is so", x.fade(7, 1), STATE);
        DUE.is("made new", x.fade(7, 0), 1);
        DUE.is("it is so", x.fade(7, 0), STATE);
        int[][] bad = {{8, 0}, {-1, 0}, {MAX, 1}, {MIN, 1}, {0, 2}, {0, -1}};
        for (int[] b : bad) DUE.is("fade(" + b[0] + ", " + b[1] + ")", x.fade(b[0], b[1]), BAD);
        DUE.is("acts", x.count(8), 3);
    }

    private static void folkArePut() {
        PaperHouses x = Due.of(EIGHT);
        DUE.is("one's own house", x.put(0, 0), 7);
        DUE.is("another", x.put(0, 2), 199);
        DUE.is("the way stays", x.folk(0, 1), 1);
        x.fade(4, 1);
        DUE.is("a widower", x.put(1, 1), 108);
        DUE.is("a doctor", x.put(3, 1), 32);
        DUE.is("a boy", x.put(4, 1), 48);
        int[][] bad = {{5, 0}, {-1, 0}, {0, 3}, {0, -1}, {MAX, 0}, {0, MAX}, {MIN, MIN}};
        for (int[] b : bad) DUE.is("put(" + b[0] + ", " + b[1] + ")", x.put(b[0], b[1]), BAD);
        DUE.is("acts", x.count(8), 6);
    }

    private static void actsAreUndone() {
        PaperHouses x = Due.of(EIGHT);
        DUE.is("none", x.undo(), STATE);
        x.move(0, 1);
        x.fade(4, 1);
        x.put(1, 0);
        x.days(2);
        DUE.is("acts", x.count(8), 5);
        DUE.is("undo a day", x.undo(), 4);
        DUE.is("day", x.count(4), 1);
        DUE.is("faded", x.count(6), 17);
        folk(x, "undone", 0, 1, 1, 2, 0, 1);
        DUE.is("undo a day", x.undo(), 3);
        folk(x, "undone", 2, 0, 15, 0, 0, 0);
        folk(x, "undone", 1, 1, 0, 1, 0, 0);
        DUE.is("undo a put", x.undo(), 2);
        folk(x, "undone", 0, 0, 2, 1, 1, 0);
        folk(x, "undone", 2, 0, 0, 0, 0, 0);
        DUE.is("undo a fading", x.undo(), 1);
        DUE.is("faded", x.count(6), 0);
        DUE.is("undo a move", x.undo(), 0);
        DUE.is("wall", x.house(1, 0), 3);
        DUE.is("none", x.undo(), STATE);
        x.fade(2, 1);
        x.fade(2, 0);
        x.undo();
        DUE.is("faded again", x.count(6), 4);
    }

    private static void oldestActsAreForgotten() {
        PaperHouses x = Due.of(EIGHT);
        x.move(0, 1);
        x.days(23);
        DUE.is("acts", x.count(8), 24);
        x.days(4);
        DUE.is("acts", x.count(8), 24);
        for (int left = 23; left >= 0; left--) DUE.is("undo", x.undo(), left);
        DUE.is("none", x.undo(), STATE);
        DUE.is("day", x.count(4), 3);
        DUE.is("wall stays moved", x.house(1, 0), 4);
        x.days(24);
        DUE.is("acts", x.count(8), 24);
        DUE.is("undo", x.undo(), 23);
        DUE.is("day", x.count(4), 26);
    }

    private static void whatIsTold() {
        PaperHouses x = Due.of(EIGHT);
        x.days(1);
        int[] houseOf = {0, 0, 0, 1, 1, 1, 2, 2};
        int[] knownBy = {8, 8, 10, 3, 19, 19, 6, 0};
        for (int c = 0; c < 8; c++) {
            DUE.is("figure", x.cell(c, 0), c % 3);
            DUE.is("faded", x.cell(c, 1), c == 0 ? 1 : 0);
            DUE.is("house of a cell", x.cell(c, 2), houseOf[c]);
            DUE.is("who knows a cell", x.cell(c, 3), knownBy[c]);
        }
        int[][] houses = {{0, 3, 8}, {3, 3, 19}, {6, 2, 4}};
        for (int h = 0; h < 3; h++) {
            for (int what = 0; what < 3; what++) DUE.is("house(" + h + ", " + what + ")", x.house(h, what), houses[h][what]);
        }
        int[][] badCells = {{8, 0}, {-1, 0}, {0, 4}, {0, -1}, {MAX, 3}, {MIN, 3}};
        for (int[] b : badCells) DUE.is("cell", x.cell(b[0], b[1]), BAD);
        int[][] badHouses = {{3, 0}, {-1, 0}, {0, 3}, {0, -1}, {MAX, 1}, {MIN, 1}};
        for (int[] b : badHouses) DUE.is("house", x.house(b[0], b[1]), BAD);
        int[][] badFolk = {{5, 0}, {-1, 0}, {0, 5}, {0, -1}, {MAX, 4}, {MIN, 4}};
        for (int[] b : badFolk) DUE.is("folk", x.folk(b[0], b[1]), BAD);
        int[] counts = {0, 8, 2, 5, 1, 2, 1, 127, 1, 0};
        for (int what = 0; what < 10; what++) DUE.is("count(" + what + ")", x.count(what), counts[what]);
        int[] bad = {-1, 10, MAX, MIN};
        for (int what : bad) DUE.is("count(" + what + ")", x.count(what), BAD);
    }
}
