/** The edges that the document names for promises 1 to 5 and 36: rows, findings, status. */
public final class RowEdgesTest {
    private static final int NONE = PaperHouses.NONE, BAD = PaperHouses.BAD, STATE = PaperHouses.STATE;
    private static final int NULL = -1000011, PLACE = -1000012, SIZE = -1000014, STORE = -1000015;
    private static final int MAX = Integer.MAX_VALUE, MIN = Integer.MIN_VALUE;
    private static final int[] NO_ROW = {-1, 8, MAX, MIN};
    private static final Due DUE = new Due();

    public static void main(String[] args) {
        noPaperAtFirst();
        rowsMissingAtFirst();
        rowsThereAre();
        lanesThereAre();
        itemsThereAre();
        itemsAtFirst();
        rowsInPlaceOfOthers();
        fewerThanNone();
        lowestBits();
        placesOfSet();
        asTheyWereAhead();
        endsOfCopy();
        lanesOfCopy();
        findingsInTime();
        droppedRows();
        statusOfEachFinding();
        statusThatStays();
        statusThatIsCleared();
        DUE.end();
    }

    // A picture in which the figures 0 to 9 have one place each, which is the figure's.
    private static PaperHouses legible() {
        return Due.of("q0;pabcdefghij;l0,0;");
    }

    private static void items(PaperHouses x, String when, int row, int... due) {
        for (int i = 0; i < due.length; i++) DUE.is(when + ", item " + i, x.piece(row, i, 1, 1), due[i]);
        DUE.is(when + ", no more items", x.piece(row, due.length, 1, 1), PLACE);
    }

    private static void noPaperAtFirst() {
        DUE.says("`PaperHouses()`: No PAPER.");
        PaperHouses x = new PaperHouses();
        for (int what = 0; what <= 9; what++) DUE.is("count(" + what + ")", x.count(what), 0);
        int[] refused = {x.days(1), x.first(0), x.together(0), x.piece(0, 0, 1, 0), x.room(1), x.drawn(0, 1, 0), x.image(0),
            x.undo(), x.restore(0), x.restore(1)};
        for (int k = 0; k < refused.length; k++) DUE.is("without a paper, " + k, refused[k], STATE);
        x.row(0, 2, 1);
        int[] nothing = {x.move(0, 1), x.fade(0, 1), x.put(0, 0), x.cell(0, 0), x.house(0, 0), x.folk(0, 0), x.ahead(0, 0, 0), x.all(0),
            x.both(0, 1, 0), x.beyond(0, 0), x.rent(0, 0), x.fits(0, 0, 0, 1, 0), x.settled(0, 0, 0, 0, 0), x.kind(0), x.as(0, 0),
            x.ask(0, 0)};
        for (int k = 0; k < nothing.length; k++) DUE.is("no such thing, " + k, nothing[k], BAD);
        DUE.is("fault()", x.fault(), 0);
        DUE.is("trace(0)", x.trace(0), NONE);
        DUE.is("an empty tape", new PaperHouses().paper(), -1000100);
    }

    private static void rowsMissingAtFirst() {
        DUE.says("ROWS 0 .. 7 are missing (at first)");
        PaperHouses x = legible();
        x.row(0, 0, 1);
        for (int r = 1; r < 8; r++) {
            int[] got = {x.set(r, 0, 0), x.copy(r, 0, 0, 0, 0), x.copy(0, 0, r, 0, 0), x.drop(r), x.piece(r, 0, 1, 0), x.fits(0, r, 0, 1, 0)};
            for (int k = 0; k < got.length; k++) DUE.is("row " + r + ", call " + k, got[k], NULL);
        }
        DUE.is("rows there", x.count(0), 1);
        DUE.is("row 0, too", legible().drop(0), NULL);
    }

    private static void rowsThereAre() {
        DUE.says("ROWS 0 .. 7");
        PaperHouses x = legible();
        for (int r = 0; r < 8; r++) {
            DUE.is("row " + r, x.row(r, 2, 40), 40);
            DUE.is("rows there", x.count(0), r + 1);
            DUE.is("its last item", x.set(r, 39, r + 1), r + 1);
        }
        for (int r = 0; r < 8; r++) DUE.is("each has items of its own, " + r, x.piece(r, 39, 1, 1), r + 1);
        for (int r : NO_ROW) {
            int[] got = {x.row(r, 0, 1), x.set(r, 0, 0), x.copy(r, 0, 0, 0, 1), x.copy(0, 0, r, 0, 1), x.drop(r), x.piece(r, 0, 1, 0),
                x.fits(0, r, 0, 1, 0)};
            for (int k = 0; k < got.length; k++) DUE.is("row " + r + ", call " + k, got[k], BAD);
        }
        DUE.is("rows there", x.count(0), 8);
    }

    private static void lanesThereAre() {
        DUE.says("or have a LANE (0 bytes, 1 shorts, 2 ints)");
        PaperHouses x = new PaperHouses();
        int[] cut = {0x78, 0x5678, 0x12345678};
        for (int lane = 0; lane < 3; lane++) {
            DUE.is("lane " + lane, x.row(lane, lane, 1), 1);
            DUE.is("as many bits, lane " + lane, x.set(lane, 0, 0x12345678), cut[lane]);
        }
        int[] none = {-1, 3, MAX, MIN};
        for (int lane : none) DUE.is("lane " + lane, x.row(3, lane, 1), BAD);
        DUE.is("no row by it", x.count(0), 3);
    }

    private static void itemsThereAre() {
        DUE.says("BAD: ROW, LANE, n above 40; SIZE.");
        PaperHouses x = new PaperHouses();
        for (int lane = 0; lane < 3; lane++) {
            DUE.is("none", x.row(lane, lane, 0), 0);
            DUE.is("a place of none", x.set(lane, 0, 0), PLACE);
            DUE.is("one", x.row(lane, lane, 1), 1);
            DUE.is("39", x.row(lane, lane, 39), 39);
            DUE.is("40", x.row(lane, lane, 40), 40);
            DUE.is("the last of 40", x.set(lane, 39, 5), 5);
            DUE.is("one more", x.set(lane, 40, 5), PLACE);
            DUE.is("41", x.row(lane, lane, 41), BAD);
            DUE.is("by far more", x.row(lane, lane, MAX), BAD);
            DUE.is("what was there is there", x.drop(lane), 40);
        }
    }

    private static void itemsAtFirst() {
        DUE.says("and 0 to 40 ITEMS, 0 at first");
        for (int lane = 0; lane < 3; lane++) {
            PaperHouses x = legible();
            x.row(7, lane, 40);
            for (int i = 0; i < 40; i++) DUE.is("item " + i + " of a new row", x.piece(7, i, 1, 1), 0);
            for (int i = 0; i < 40; i++) x.set(7, i, 9);
            for (int i = 0; i < 40; i++) DUE.is("item " + i + " that was set", x.piece(7, i, 1, 1), 9);
            x.row(7, lane, 40);
            for (int i = 0; i < 40; i++) DUE.is("item " + i + " of a row anew", x.piece(7, i, 1, 1), 0);
        }
    }

    private static void rowsInPlaceOfOthers() {
        DUE.says("A ROW of a LANE with n ITEMS, in place of what is there: n.");
        PaperHouses x = legible();
        Due.lay(x, 0, 1, 2, 3, 4, 5);
        DUE.is("shorter", x.row(0, 0, 2), 2);
        items(x, "shorter", 0, 0, 0);
        DUE.is("another lane", x.set(0, 1, 259), 3);
        DUE.is("longer", x.row(0, 1, 4), 4);
        items(x, "longer", 0, 0, 0, 0, 0);
        DUE.is("another lane", x.set(0, 3, 65539), 3);
        DUE.is("none", x.row(0, 1, 0), 0);
        items(x, "none", 0);
        DUE.is("one row still", x.count(0), 1);
    }

    private static void fewerThanNone() {
        DUE.says("4 SIZE (fewer than none)");
        PaperHouses x = legible();
        Due.lay(x, 1, 6, 7);
        int[] fewer = {-1, -2, MIN};
        for (int n : fewer) {
            DUE.is("row(1, 0, " + n + ")", x.row(1, 0, n), SIZE);
            DUE.is("status", x.status(), 4);
            DUE.is("row(2, 0, " + n + ")", x.row(2, 0, n), SIZE);
            DUE.is("no such row", x.row(8, 0, n), BAD);
            DUE.is("no such row", x.row(-1, 0, n), BAD);
            DUE.is("no such lane", x.row(1, 3, n), BAD);
            DUE.is("no such lane", x.row(1, -1, n), BAD);
        }
        items(x, "as it was", 1, 6, 7);
        DUE.is("its lane, too", x.set(1, 0, 300), 300);
        DUE.is("missing still", x.drop(2), NULL);
    }

    private static void lowestBits() {
        DUE.says("ITEM i becomes v, its lowest bits, as many as the LANE has: what it is then.");
        int[][] told = {{0, 0, 0, 0}, {1, 1, 1, 1}, {-1, -1, -1, -1}, {127, 127, 127, 127}, {128, -128, 128, 128}, {-128, -128, -128, -128},
            {-129, 127, -129, -129}, {255, -1, 255, 255}, {256, 0, 256, 256}, {-256, 0, -256, -256}, {32767, -1, 32767, 32767},
            {32768, 0, -32768, 32768}, {-32768, 0, -32768, -32768}, {-32769, -1, 32767, -32769}, {65535, -1, -1, 65535},
            {65536, 0, 0, 65536}, {MAX, -1, -1, MAX}, {MIN, 0, 0, MIN}};
        PaperHouses x = new PaperHouses();
        for (int lane = 0; lane < 3; lane++) {
            x.row(lane, lane, 1);
            for (int[] t : told) DUE.is("lane " + lane + ", " + t[0], x.set(lane, 0, t[0]), t[lane + 1]);
        }
        PaperHouses y = legible();
        y.row(0, 0, 1);
        y.row(1, 1, 1);
        y.row(2, 2, 1);
        for (int lane = 0; lane < 3; lane++) {
            y.set(lane, 0, 65536 + 3);
            DUE.is("it is that from now on, lane " + lane, y.piece(lane, 0, 1, 1), lane == 2 ? NONE : 3);
        }
    }

    private static void placesOfSet() {
        DUE.says("2 PLACE (no such place of a ROW)");
        PaperHouses x = legible();
        Due.lay(x, 0, 1, 2, 3);
        DUE.is("the first", x.set(0, 0, 4), 4);
        DUE.is("the last", x.set(0, 2, 6), 6);
        int[] none = {-1, 3, 4, 39, 40, MAX, MIN};
        for (int i : none) {
            DUE.is("place " + i, x.set(0, i, 9), PLACE);
            DUE.is("status", x.status(), 2);
        }
        items(x, "as it was", 0, 4, 2, 6);
        x.row(1, 0, 0);
        DUE.is("a row of none", x.set(1, 0, 0), PLACE);
        DUE.is("missing ahead of a place", x.set(2, -1, 0), NULL);
        DUE.is("missing ahead of a place", x.set(2, MAX, 0), NULL);
    }

    private static void asTheyWereAhead() {
        DUE.says("n ITEMS of a from i on come to b from j on, as they were ahead: n.");
        int size = 5;
        for (int i = 0; i <= size; i++) {
            for (int j = 0; j <= size; j++) {
                int n = size - Math.max(i, j);
                PaperHouses x = legible();
                Due.lay(x, 0, 1, 2, 3, 4, 5);
                DUE.is("copy(0, " + i + ", 0, " + j + ", " + n + ")", x.copy(0, i, 0, j, n), n);
                int[] due = {1, 2, 3, 4, 5};
                for (int k = 0; k < n; k++) due[j + k] = i + k + 1;
                items(x, "from " + i + " to " + j, 0, due);
            }
        }
        PaperHouses y = legible();
        y.row(0, 1, 40);
        y.row(7, 1, 40);
        for (int i = 0; i < 40; i++) y.set(0, i, i % 10);
        DUE.is("all there is room for", y.copy(0, 0, 7, 0, 40), 40);
        for (int i = 0; i < 40; i++) DUE.is("item " + i, y.piece(7, i, 1, 1), i % 10);
    }

    private static void endsOfCopy() {
        DUE.says("PLACE (i, j, n below 0, or beyond an end)");
        PaperHouses x = legible();
        Due.lay(x, 0, 1, 2, 3);
        Due.lay(x, 1, 7, 8);
        x.row(2, 2, 0);
        int[][] taken = {{0, 1, 1, 0, 2}, {0, 2, 1, 1, 1}, {0, 3, 1, 2, 0}, {0, 0, 1, 0, 0}, {2, 0, 2, 0, 0}, {2, 0, 1, 2, 0}, {0, 3, 2, 0, 0}};
        for (int[] t : taken) DUE.is("copy", x.copy(t[0], t[1], t[2], t[3], t[4]), t[4]);
        items(x, "taken", 1, 2, 3);
        int[][] found = {{0, -1, 1, 0, 1}, {0, 0, 1, -1, 1}, {0, 0, 1, 0, -1}, {0, -1, 1, 0, 0}, {0, 0, 1, -1, 0}, {0, 2, 1, 0, 2}, {0, 3, 1, 0, 1},
            {0, 4, 1, 0, 0}, {0, 0, 1, 1, 2}, {0, 0, 1, 2, 1}, {0, 0, 1, 3, 0}, {0, 0, 1, 0, 3}, {0, 0, 0, 0, 4}, {2, 0, 2, 0, 1}, {2, 1, 2, 0, 0},
            {2, 0, 2, 1, 0}, {0, MAX, 1, 0, 1}, {0, 0, 1, MAX, 1}, {0, 0, 1, 0, MAX}, {0, MAX, 1, MAX, MAX}, {0, MIN, 1, 0, 1},
            {0, 0, 1, MIN, 1}, {0, 0, 1, 0, MIN}, {0, 1, 1, 0, MAX}, {0, 0, 1, 1, MAX}, {0, MAX, 1, 0, 2}, {0, 0, 1, MAX, 2}, {0, MIN, 1, MIN, MIN}};
        for (int[] f : found) {
            DUE.is("copy(" + f[0] + ", " + f[1] + ", " + f[2] + ", " + f[3] + ", " + f[4] + ")", x.copy(f[0], f[1], f[2], f[3], f[4]), PLACE);
            DUE.is("status", x.status(), 2);
        }
        items(x, "nothing came", 0, 1, 2, 3);
        items(x, "nothing came", 1, 2, 3);
    }

    private static void lanesOfCopy() {
        DUE.says("5 STORE (ROWS of two LANES)");
        PaperHouses x = new PaperHouses();
        for (int lane = 0; lane < 3; lane++) {
            x.row(lane, lane, 3);
            x.row(lane + 3, lane, 3);
        }
        for (int a = 0; a < 6; a++) {
            for (int b = 0; b < 6; b++) {
                DUE.is("rows " + a + ", " + b, x.copy(a, 0, b, 0, 1), a % 3 == b % 3 ? 1 : STORE);
                DUE.is("status", x.status(), a % 3 == b % 3 ? 0 : 5);
                DUE.is("none of rows " + a + ", " + b, x.copy(a, 3, b, 3, 0), a % 3 == b % 3 ? 0 : STORE);
            }
        }
    }

    private static void findingsInTime() {
        DUE.says("then FINDINGS, of several the first in time");
        PaperHouses x = legible();
        x.row(0, 0, 3);
        x.row(1, 1, 3);
        DUE.is("two lanes ahead of a place", x.copy(0, 4, 1, 0, 1), STORE);
        DUE.is("two lanes ahead of a place", x.copy(0, 0, 1, -1, 1), STORE);
        DUE.is("two lanes ahead of a place", x.copy(1, 0, 0, 0, -1), STORE);
        DUE.is("missing ahead of a place", x.copy(2, 0, 0, 4, 1), NULL);
        DUE.is("missing ahead of a place", x.copy(0, 4, 2, 0, 1), NULL);
        DUE.is("missing ahead of a place", x.copy(2, -1, 3, -1, -1), NULL);
        DUE.is("missing ahead of a place", x.piece(2, -1, 12, 0), NULL);
        DUE.is("missing ahead of a place", x.fits(0, 2, 40, 12, 3), NULL);
        DUE.is("no such row ahead of missing", x.copy(2, 0, 8, 0, 1), BAD);
        DUE.is("no such row ahead of missing", x.copy(-1, 0, 2, 0, 1), BAD);
        DUE.is("no such row ahead of two lanes", x.copy(0, 0, 8, 0, 1), BAD);
        DUE.is("no such row ahead of a place", x.set(8, -1, 0), BAD);
        DUE.is("no such number ahead of missing", x.piece(2, 0, 13, 0), BAD);
        DUE.is("no such number ahead of missing", x.piece(2, 0, 1, 2), BAD);
        DUE.is("no such number ahead of missing", x.fits(0, 2, 0, 13, 0), BAD);
        DUE.is("no such number ahead of missing", x.fits(0, 2, 0, 1, 4), BAD);
        DUE.is("no such number ahead of missing", x.fits(1, 2, 0, 1, 0), BAD);
        DUE.is("none of them is found", x.status(), 1);
    }

    private static void droppedRows() {
        DUE.says("A ROW is missing from now on: how many ITEMS it had.");
        PaperHouses x = legible();
        for (int r = 0; r < 8; r++) x.row(r, 2, r == 7 ? 40 : r);
        for (int r = 0; r < 8; r++) {
            DUE.is("drop(" + r + ")", x.drop(r), r == 7 ? 40 : r);
            DUE.is("rows there", x.count(0), 7 - r);
            int[] got = {x.drop(r), x.set(r, 0, 0), x.copy(r, 0, r, 0, 0), x.piece(r, 0, 1, 0), x.fits(0, r, 0, 1, 0)};
            for (int k = 0; k < got.length; k++) DUE.is("missing, call " + k, got[k], NULL);
        }
        Due.lay(x, 3, 9, 9, 9);
        x.drop(3);
        DUE.is("laid again", x.row(3, 2, 3), 3);
        items(x, "laid again", 3, 0, 0, 0);
        DUE.is("no such row", x.drop(-1), BAD);
        DUE.is("no such row", x.drop(8), BAD);
    }

    private static void statusOfEachFinding() {
        DUE.says("the number of its FINDING");
        PaperHouses x = legible();
        x.row(0, 0, 1);
        x.row(1, 1, 1);
        int[] got = {x.set(2, 0, 0), x.status(), x.set(0, 1, 0), x.status(), x.as(0, 4), x.status(), x.row(0, 0, -1), x.status(),
            x.copy(0, 0, 1, 0, 1), x.status()};
        for (int number = 1; number <= 5; number++) {
            DUE.is("finding " + number, got[2 * number - 2], -1000010 - number);
            DUE.is("status of finding " + number, got[2 * number - 1], number);
        }
        int[] calls = {x.drop(2), x.status(), x.piece(2, 0, 1, 0), x.status(), x.fits(0, 2, 0, 1, 0), x.status(), x.copy(0, 0, 2, 0, 0), x.status()};
        for (int k = 0; k < calls.length; k++) DUE.is("missing, " + k, calls[k], k % 2 == 0 ? NULL : 1);
        int[] places = {x.piece(0, 1, 1, 0), x.status(), x.fits(0, 0, 1, 1, 0), x.status(), x.copy(0, 0, 0, 1, 1), x.status()};
        for (int k = 0; k < places.length; k++) DUE.is("place, " + k, places[k], k % 2 == 0 ? PLACE : 2);
    }

    private static void statusThatStays() {
        DUE.says("Of the latest call with a ROW, or as(), that was not BAD, STATE, FULL");
        PaperHouses x = new PaperHouses();
        x.row(0, 0, -1);
        DUE.is("STATE of piece", x.piece(0, 0, 1, 0), STATE);
        DUE.is("status", x.status(), 4);
        for (int k = 0; k < 90; k++) x.feed(0);
        DUE.is("FULL of feed", x.feed(0), PaperHouses.FULL);
        DUE.is("status", x.status(), 4);
        x.paper();
        Due.read(x, "q0;pabcdefghij;l0,0;");
        int[] bad = {x.row(8, 0, 0), x.row(0, 3, 0), x.row(0, 0, 41), x.set(8, 0, 0), x.copy(8, 0, 0, 0, 0), x.copy(0, 0, 8, 0, 0), x.drop(8),
            x.piece(8, 0, 1, 0), x.piece(0, 0, 0, 0), x.piece(0, 0, 1, 2), x.fits(1, 0, 0, 1, 0), x.fits(0, 8, 0, 1, 0), x.fits(0, 0, 0, 0, 0),
            x.fits(0, 0, 0, 1, 4), x.as(1, 0), x.as(0, 6)};
        for (int b : bad) DUE.is("BAD", b, BAD);
        DUE.is("status", x.status(), 4);
        x.days(1);
        x.move(0, 0);
        x.fade(0, 1);
        x.put(0, 0);
        x.undo();
        x.image(0);
        x.restore(0);
        x.ask(0, 0);
        x.kind(0);
        x.count(0);
        x.drawn(1, 1, 0);
        DUE.is("calls without a row", x.status(), 4);
        DUE.is("and once more", x.status(), 4);
    }

    private static void statusThatIsCleared() {
        DUE.says("0: it had none, or there was none.");
        DUE.is("there was none", new PaperHouses().status(), 0);
        for (int call = 0; call < 9; call++) {
            PaperHouses x = legible();
            x.row(0, 0, 2);
            x.drop(7);
            DUE.is("a finding ahead", x.status(), 1);
            int got = switch (call) {
                case 0 -> x.row(1, 0, 0);
                case 1 -> x.set(0, 0, 0);
                case 2 -> x.copy(0, 0, 0, 0, 0);
                case 3 -> x.drop(0);
                case 4 -> x.piece(0, 0, 1, 0);
                case 5 -> x.piece(0, 0, 2, 1);
                case 6 -> x.fits(0, 0, 0, 1, 0);
                case 7 -> x.as(0, 0);
                default -> x.as(0, 1);
            };
            DUE.holds("call " + call + " finds nothing", got >= NONE);
            DUE.is("status of call " + call, x.status(), 0);
        }
    }
}
