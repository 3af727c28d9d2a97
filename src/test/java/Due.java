/** Counts answers that are not the ones that are due; a test ends with it. */
final class Due {
    private int wrong;
    private int looked;

    void is(String call, int got, int want) {
        looked++;
        if (got == want) return;
        wrong++;
        if (wrong <= 40) System.out.println(call + " answered " + got + ", due is " + want);
    }

    void holds(String what, boolean so) {
        is(what, so ? 1 : 0, 1);
    }

    void end() {
        System.out.println(looked + " looked at, " + wrong + " not as due");
        if (wrong != 0 || looked == 0) System.exit(1);
    }

    static void feed(PaperHouses x, String text) {
        for (int i = 0; i < text.length(); i++) x.feed(text.charAt(i));
    }

    static int read(PaperHouses x, String text) {
        feed(x, text);
        return x.paper();
    }

    static PaperHouses of(String text) {
        PaperHouses x = new PaperHouses();
        if (read(x, text) < 0) throw new IllegalStateException("the test's own paper is at fault: " + text);
        return x;
    }

    /** A row of ints with these items. */
    static void lay(PaperHouses x, int row, int... items) {
        x.row(row, 2, items.length);
        for (int i = 0; i < items.length; i++) x.set(row, i, items[i]);
    }
}
