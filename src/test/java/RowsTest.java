/** Promises 1 to 5 and 36: rows, their findings, and the status that they leave. */
public final class RowsTest {
    private static final int NULL = -1000011, PLACE = -1000012, SIZE = -1000014, STORE = -1000015;
    private static final int MAX = Integer.MAX_VALUE, MIN = Integer.MIN_VALUE;
    private static final Due DUE = new Due();

    public static void main(String[] args) {
        aNewObject();
        rowsAreLaid();
        itemsAreSet();
        itemsAreCopied();
        rowsAreDropped();
        statusStays();
        DUE.end();
    }

    private static void aNewObject() {
        PaperHouses x = new PaperHouses();
        for (int what = 0; what <= 9; what++) DUE.is("count(" + what + ") at first", x.count(what), 0);
        DUE.is("status() at first", x.status(), 0);
        DUE.is("fault() at first", x.fault(), 0);
        DUE.is("trace(0) at first", x.trace(0), PaperHouses.NONE);
        for (int r = 0; r < 8; r++) DUE.is("drop at first", x.drop(r), NULL);
    }

    private static void rowsAreLaid() {
        PaperHouses x = new PaperHouses();
        DUE.is("a row of none", x.row(0, 2, 0), 0);
        DUE.is("a row of 40", x.row(7, 0, 40), 40);
        DUE.is("rows there", x.count(0), 2);
        DUE.is("row in place of another", x.row(7, 1, 3), 3);
        DUE.is("rows there still", x.count(0), 2);
        int[][] bad = {{-1, 0, 1}, {8, 0, 1}, {MAX, 0, 1}, {MIN, 0, 1}, {0, -1, 1}, {0, 3, 1}, {0, 0, 41}, {0, 0, MAX},
            {8, 0, -1}, {0, 3, -1}};
        for (int[] b : bad) DUE.is("row(" + b[0] + ", " + b[1] + ", " + b[2] + ")", x.row(b[0], b[1], b[2]), PaperHouses.BAD);
        DUE.is("fewer than none", x.row(7, 0, -1), SIZE);
        DUE.is("status of it", x.status(), 4);
        DUE.is("fewer than none, far", x.row(7, 0, MIN), SIZE);
        DUE.is("the row there is as it was", x.drop(7), 3);
    }

    private static void itemsAreSet() {
        PaperHouses x = new PaperHouses();
        x.row(0, 0, 2);
        x.row(1, 1, 2);
        x.row(2, 2, 2);
        int[] told = {127, 128, 255, 256, -128, -129, 32767, 32768, 65535, 65536, -32769, MAX, MIN, 0x1234ABCD};
        for (int v : told) {
            DUE.is("byte of " + v, x.set(0, 0, v), (byte) v);
            DUE.is("short of " + v, x.set(1, 1, v), (short) v);
            DUE.is("int of " + v, x.set(2, 1, v), v);
        }
        DUE.is("no such row", x.set(-1, 0, 0), PaperHouses.BAD);
        DUE.is("no such row", x.set(8, 0, 0), PaperHouses.BAD);
        DUE.is("missing row", x.set(3, -1, 0), NULL);
        int[] places = {-1, 2, MAX, MIN};
        for (int i : places) DUE.is("place " + i, x.set(2, i, 0), PLACE);
        DUE.is("status", x.status(), 2);
        x.row(4, 2, 0);
        DUE.is("a place of a row of none", x.set(4, 0, 0), PLACE);
    }

    // By a picture of ten figures in order the place of an item is the item.
    private static PaperHouses legible() {
        return Due.of("q0;pabcdefghij;");
    }

    private static void look(PaperHouses x, String when, int row, int... items) {
        for (int i = 0; i < items.length; i++) DUE.is(when + ", item " + i, x.piece(row, i, 1, 1), items[i]);
    }

    private static void itemsAreCopied() {
        PaperHouses x = legible();
        Due.lay(x, 0, 1, 2, 3, 4, 5);
        Due.lay(x, 1, 9, 9);
        DUE.is("up within one row", x.copy(0, 0, 0, 1, 4), 4);
        look(x, "up within one row", 0, 1, 1, 2, 3, 4);
        DUE.is("down within one row", x.copy(0, 2, 0, 0, 3), 3);
        look(x, "down within one row", 0, 2, 3, 4, 3, 4);
        DUE.is("to another row", x.copy(1, 0, 0, 3, 2), 2);
        look(x, "to another row", 0, 2, 3, 4, 9, 9);
        DUE.is("none, at the ends", x.copy(0, 5, 1, 2, 0), 0);
        DUE.is("status of none", x.status(), 0);
        int[][] places = {{0, -1, 1, 0, 1}, {0, 0, 1, -1, 1}, {0, 0, 1, 0, -1}, {0, 4, 1, 0, 2}, {0, 0, 1, 1, 2}, {0, 6, 1, 0, 0},
            {0, 0, 1, 3, 0}, {0, MAX, 1, 0, MAX}, {0, 1, 1, 1, MAX}, {0, MIN, 1, MIN, MIN}, {0, 5, 1, 0, 1}};
        for (int[] p : places) DUE.is("copy " + p[1] + ", " + p[3] + ", " + p[4], x.copy(p[0], p[1], p[2], p[3], p[4]), PLACE);
        look(x, "after what was refused", 0, 2, 3, 4, 9, 9);
        look(x, "after what was refused", 1, 9, 9);
        x.row(2, 1, 5);
        DUE.is("two lanes ahead of a place", x.copy(0, -1, 2, 9, 99), STORE);
        DUE.is("status of two lanes", x.status(), 5);
        DUE.is("missing ahead of two lanes", x.copy(2, 0, 5, 0, 1), NULL);
        DUE.is("missing, the other", x.copy(5, 0, 2, 0, -1), NULL);
        DUE.is("BAD ahead of missing", x.copy(5, 0, 8, 0, 1), PaperHouses.BAD);
        DUE.is("BAD ahead of missing", x.copy(-1, 0, 5, 0, 1), PaperHouses.BAD);
        x.row(0, 2, 5);
        look(x, "laid anew", 0, 0, 0, 0, 0, 0);
    }

    private static void rowsAreDropped() {
        PaperHouses x = new PaperHouses();
        x.row(3, 1, 17);
        x.row(4, 1, 0);
        DUE.is("drop", x.drop(3), 17);
        DUE.is("drop of none", x.drop(4), 0);
        DUE.is("rows there", x.count(0), 0);
        DUE.is("drop again", x.drop(3), NULL);
        DUE.is("drop -1", x.drop(-1), PaperHouses.BAD);
        DUE.is("drop 8", x.drop(8), PaperHouses.BAD);
        DUE.is("set a dropped one", x.set(3, 0, 0), NULL);
    }

    private static void statusStays() {
        PaperHouses x = legible();
        x.drop(0);
        DUE.is("status NULL", x.status(), 1);
        x.row(9, 0, 0);
        x.copy(9, 0, 0, 0, 0);
        x.piece(9, 0, 1, 0);
        x.piece(0, 0, 0, 0);
        x.fits(0, 0, 0, 1, 0);
        x.as(0, 0);
        x.feed(300);
        x.count(0);
        Due.read(x, "q0;pabcdefghij;l0,0;");
        x.days(1);
        x.ask(0, 0);
        DUE.is("BAD and other calls leave it", x.status(), 1);
        x.row(0, 2, 1);
        DUE.is("row clears it", x.status(), 0);
        x.set(0, 1, 0);
        DUE.is("status PLACE", x.status(), 2);
        x.set(0, 0, 10);
        DUE.is("set clears it", x.status(), 0);
        x.piece(0, 1, 1, 0);
        DUE.is("piece PLACE", x.status(), 2);
        DUE.is("piece of nothing", x.piece(0, 0, 1, 1), PaperHouses.NONE);
        DUE.is("piece clears it", x.status(), 0);
        x.fits(0, 1, 0, 1, 0);
        DUE.is("fits NULL", x.status(), 1);
        x.fits(0, 0, 0, 1, 0);
        DUE.is("fits clears it", x.status(), 0);
        x.as(0, 2);
        DUE.is("as KIND", x.status(), 3);
        x.as(0, 6);
        DUE.is("as BAD leaves it", x.status(), 3);
        x.as(0, 1);
        DUE.is("as clears it", x.status(), 0);
        x.drop(1);
        x.drop(0);
        DUE.is("drop clears it", x.status(), 0);
        x.drop(0);
        PaperHouses y = new PaperHouses();
        y.row(0, 0, -1);
        y.piece(0, 0, 1, 0);
        DUE.is("STATE leaves it", y.status(), 4);
    }
}
