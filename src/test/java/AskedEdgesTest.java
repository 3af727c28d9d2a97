/** The edges that the document names for promises 31 to 34: kinds, asks and their trace. */
public final class AskedEdgesTest {
    private static final int NONE = PaperHouses.NONE, BAD = PaperHouses.BAD;
    private static final int KIND = -1000013;
    private static final int MAX = Integer.MAX_VALUE, MIN = Integer.MIN_VALUE;
    private static final String FIGURES_OF_24 = "abcdefghijabcdefghijabcd";
    private static final String SORTS = "ldsob";
    private static final int[] NOBODY = {-1, 5, MAX, MIN};
    // By kinds 1 to 5: the bodies of SIZE, then those of MARK.
    private static final int[][] SIZES = {{11, 10, 21, 20}, {12, 11, 10, 24, 21, 20}, {11, 10, 22, 21, 20}, {13, 10}, {14, 13, 10}};
    private static final int[][] MARKS = {{21, 20}, {24, 21, 20}, {22, 21, 20}, {23, 20, 13, 10}, {23, 20, 14, 13, 10}};
    private static final Due DUE = new Due();

    public static void main(String[] args) {
        kindsTold();
        takenAs();
        takenAsNone();
        asksOfEachPlace();
        asksOfNobody();
        whatIsKnown();
        theTraceIsEmptyAhead();
        theTraceAtItsEnds();
        DUE.end();
    }

    private static String everybody(int turned) {
        StringBuilder text = new StringBuilder("q0;p" + FIGURES_OF_24 + ";x4;x8;x12;x16;x20;");
        for (int f = 0; f < 5; f++) text.append(SORTS.charAt((f + turned) % 5)).append(f == 4 ? 5 : f).append(",1;");
        return text.toString();
    }

    private static void kindsTold() {
        DUE.says("The KIND of one, as told (1 to 5). BAD.");
        for (int turned = 0; turned < 5; turned++) {
            PaperHouses x = Due.of(everybody(turned));
            for (int f = 0; f < 5; f++) DUE.is("kind(" + f + ")", x.kind(f), (f + turned) % 5 + 1);
            for (int f : NOBODY) DUE.is("kind(" + f + ")", x.kind(f), BAD);
        }
        PaperHouses one = Due.of("q0;pabcdef;b0,0;");
        DUE.is("the one there is", one.kind(0), 5);
        DUE.is("no second one", one.kind(1), BAD);
        DUE.is("nobody", Due.of("q0;pabcdef;").kind(0), BAD);
        DUE.is("no paper", new PaperHouses().kind(0), BAD);
    }

    private static void takenAs() {
        DUE.says("KINDS of FOLK: 0 FOLK; 1 LODGER, a FOLK; 2 WIDOWER, a LODGER; 3 SHORT, a LODGER; 4 DOCTOR, a FOLK; 5 BOY, a DOCTOR.");
        String[] is = {"", "01", "012", "013", "04", "045"};
        for (int turned = 0; turned < 5; turned++) {
            PaperHouses x = Due.of(everybody(turned));
            for (int f = 0; f < 5; f++) {
                int own = (f + turned) % 5 + 1;
                for (int kind = 0; kind <= 5; kind++) {
                    boolean so = is[own].indexOf('0' + kind) >= 0;
                    DUE.is("one of kind " + own + ", number " + f + ", as " + kind, x.as(f, kind), so ? f : KIND);
                    DUE.is("status", x.status(), so ? 0 : 3);
                }
            }
        }
    }

    private static void takenAsNone() {
        DUE.says("One is taken as one of a KIND (0 .. 5): the number. BAD; KIND: no such one.");
        PaperHouses x = Due.of(everybody(0));
        x.as(0, 5);
        int[] kinds = {-1, 6, MAX, MIN};
        for (int kind : kinds) DUE.is("as(0, " + kind + ")", x.as(0, kind), BAD);
        for (int f : NOBODY) {
            DUE.is("as(" + f + ", 0)", x.as(f, 0), BAD);
            DUE.is("as(" + f + ", 6)", x.as(f, 6), BAD);
        }
        DUE.is("BAD is no finding", x.status(), 3);
        DUE.is("nobody", Due.of("q0;pabcdef;").as(0, 0), BAD);
        DUE.is("no paper", new PaperHouses().as(0, 0), BAD);
    }

    private static int sizeDue(int kind, int number, int house, int known) {
        return switch (kind) {
            case 1 -> known + number + house;
            case 2 -> -(known + 2 * (number + house));
            case 3 -> known + number + house - 1000;
            case 4 -> known - 100;
            default -> 2 * (known - 100);
        };
    }

    private static int markDue(int kind, int number, int house, int known) {
        return switch (kind) {
            case 1 -> number + house;
            case 2 -> 2 * (number + house);
            case 3 -> number + house - 1000;
            default -> number - sizeDue(kind, number, house, known);
        };
    }

    private static void ask(PaperHouses x, int folk, int what, int due, int[] bodies) {
        String call = "ask(" + folk + ", " + what + ") of kind " + x.kind(folk);
        DUE.is(call, x.ask(folk, what), due);
        for (int i = 0; i < bodies.length; i++) DUE.is(call + ", trace(" + i + ")", x.trace(i), bodies[i]);
        DUE.is(call + ", no more", x.trace(bodies.length), NONE);
    }

    private static void askBoth(PaperHouses x, int folk) {
        int kind = x.kind(folk);
        int known = Integer.bitCount(x.folk(folk, 2));
        ask(x, folk, 0, sizeDue(kind, folk, x.folk(folk, 0), known), SIZES[kind - 1]);
        ask(x, folk, 1, markDue(kind, folk, x.folk(folk, 0), known), MARKS[kind - 1]);
    }

    private static void asksOfEachPlace() {
        DUE.says("Of an ask the BODY told for the KIND begins, else that of the nearest KIND that it is, too, else the one that is lent;");
        for (int turned = 0; turned < 5; turned++) {
            PaperHouses x = Due.of(everybody(turned));
            for (int f = 0; f < 5; f++) askBoth(x, f);
            x.days(24);
            for (int f = 0; f < 5; f++) askBoth(x, f);
        }
    }

    private static void whatIsKnown() {
        DUE.says("10 lent to all FOLK: how many CELLS one KNOWS.");
        for (int s = 0; s < 5; s++) {
            PaperHouses x = Due.of("q0;p" + "abcdefghij".repeat(2) + "abcd;" + SORTS.charAt(s) + "0,0;");
            int[] all = {24, 24, 12, 22, 22};
            DUE.is("nothing", x.ask(0, 0), sizeDue(s + 1, 0, 0, 0));
            x.put(0, 0);
            DUE.is("all that one may", x.ask(0, 0), sizeDue(s + 1, 0, 0, all[s]));
            x.undo();
            DUE.is("nothing again", x.ask(0, 0), sizeDue(s + 1, 0, 0, 0));
        }
    }

    private static void asksOfNobody() {
        DUE.says("An ASK (0, 1) of one. BAD.");
        PaperHouses x = Due.of(everybody(0));
        int[] whats = {-1, 2, MAX, MIN};
        for (int what : whats) DUE.is("ask(0, " + what + ")", x.ask(0, what), BAD);
        for (int f : NOBODY) {
            DUE.is("ask(" + f + ", 0)", x.ask(f, 0), BAD);
            DUE.is("ask(" + f + ", 1)", x.ask(f, 1), BAD);
        }
        DUE.is("no trace of them", x.trace(0), NONE);
        DUE.is("nobody", Due.of("q0;pabcdef;").ask(0, 0), BAD);
        DUE.is("no paper", new PaperHouses().ask(0, 0), BAD);
    }

    private static void theTraceIsEmptyAhead() {
        DUE.says("THE TRACE is empty ahead of it.");
        PaperHouses x = Due.of(everybody(0));
        DUE.is("at first", x.trace(0), NONE);
        for (int k = 0; k < 10; k++) {
            ask(x, 1, 0, -4, SIZES[1]);
            ask(x, 3, 0, -100, SIZES[3]);
            ask(x, 0, 1, 0, MARKS[0]);
        }
        x.ask(0, 2);
        x.ask(5, 0);
        DUE.is("what is refused leaves it", x.trace(1), 20);
        x.days(1);
        x.paper();
        DUE.is("so do other calls", x.trace(1), 20);
    }

    private static void theTraceAtItsEnds() {
        DUE.says("Number i of THE TRACE; NONE.");
        PaperHouses x = Due.of(everybody(0));
        int[] none = {-1, 6, 7, 15, 16, 17, MAX, MIN};
        for (int i : none) DUE.is("empty, trace(" + i + ")", x.trace(i), NONE);
        x.ask(1, 0);
        DUE.is("the first", x.trace(0), 12);
        DUE.is("the last of the longest", x.trace(5), 20);
        for (int i : none) DUE.is("trace(" + i + ")", x.trace(i), NONE);
    }
}
