/** Promises 31 to 34: kinds, and asks with the trace that they leave. */
public final class AskedTest {
    private static final int BAD = PaperHouses.BAD, NONE = PaperHouses.NONE;
    private static final int KIND = -1000013;
    private static final int MAX = Integer.MAX_VALUE, MIN = Integer.MIN_VALUE;
    private static final Due DUE = new Due();

    public static void main(String[] args) {
        kinds();
        asks();
        DUE.end();
    }

    private static PaperHouses paper() {
        return Due.of("q2;pabcabcab;x3;x6;l0,1;d2,0;s1,1;o1,0;b0,0;");
    }

    private static void kinds() {
        PaperHouses x = paper();
        boolean[][] is = {
            {true, true, false, false, false, false},
            {true, true, true, false, false, false},
            {true, true, false, true, false, false},
            {true, false, false, false, true, false},
            {true, false, false, false, true, true}};
        for (int f = 0; f < 5; f++) {
            DUE.is("kind(" + f + ")", x.kind(f), f + 1);
            for (int k = 0; k < 6; k++) {
                DUE.is("as(" + f + ", " + k + ")", x.as(f, k), is[f][k] ? f : KIND);
                DUE.is("status of it", x.status(), is[f][k] ? 0 : 3);
            }
        }
        int[] bad = {-1, 5, MAX, MIN};
        for (int f : bad) {
            DUE.is("kind(" + f + ")", x.kind(f), BAD);
            DUE.is("as(" + f + ", 0)", x.as(f, 0), BAD);
            DUE.is("ask(" + f + ", 0)", x.ask(f, 0), BAD);
        }
        int[] badKinds = {-1, 6, MAX, MIN};
        for (int k : badKinds) DUE.is("as(0, " + k + ")", x.as(0, k), BAD);
    }

    private static void ask(PaperHouses x, int folk, int what, int due, int... bodies) {
        String call = "ask(" + folk + ", " + what + ")";
        DUE.is(call, x.ask(folk, what), due);
        trace(x, call, bodies);
    }

    private static void trace(PaperHouses x, String call, int... bodies) {
        for (int i = 0; i < bodies.length; i++) DUE.is(call + ": trace(" + i + ")", x.trace(i), bodies[i]);
        int[] none = {bodies.length, 15, 16, 17, -1, MAX, MIN};
        for (int i : none) DUE.is(call + ": trace(" + i + ")", x.trace(i), NONE);
    }

    private static void asks() {
        PaperHouses x = paper();
        trace(x, "before any");
        x.days(1);
        ask(x, 0, 0, 4, 11, 10, 21, 20);
        ask(x, 1, 0, -9, 12, 11, 10, 24, 21, 20);
        ask(x, 2, 0, -995, 11, 10, 22, 21, 20);
        ask(x, 3, 0, -97, 13, 10);
        ask(x, 4, 0, -196, 14, 13, 10);
        ask(x, 0, 1, 1, 21, 20);
        ask(x, 1, 1, 4, 24, 21, 20);
        ask(x, 2, 1, -996, 22, 21, 20);
        ask(x, 3, 1, 100, 23, 20, 13, 10);
        ask(x, 4, 1, 200, 23, 20, 14, 13, 10);
        DUE.is("no such ask", x.ask(0, 2), BAD);
        DUE.is("no such ask", x.ask(0, -1), BAD);
        DUE.is("no such one", x.ask(5, 0), BAD);
        trace(x, "what is refused leaves it", 23, 20, 14, 13, 10);
        x.put(0, 2);
        trace(x, "other calls leave it", 23, 20, 14, 13, 10);
        ask(x, 0, 0, 7, 11, 10, 21, 20);
    }
}
