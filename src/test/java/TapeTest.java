/** Promises 6 to 8: the tape, papers that are read, and faults. */
public final class TapeTest {
    private static final Due DUE = new Due();
    private static final String SIX = "q1;pabcdef;";
    private static final String TWELVE = "q1;pabcdefabcdef;";

    public static void main(String[] args) {
        bytesCome();
        goodPapers();
        lawsAndPicturesAtFault();
        wallsAtFault();
        folkAtFault();
        faultsChangeNothing();
        aPaperStandsInPlaceOfTheOneBefore();
        DUE.end();
    }

    private static void bytesCome() {
        PaperHouses x = new PaperHouses();
        int[] bad = {-1, 256, Integer.MAX_VALUE, Integer.MIN_VALUE};
        for (int b : bad) DUE.is("feed(" + b + ")", x.feed(b), PaperHouses.BAD);
        for (int i = 1; i <= 90; i++) DUE.is("feed", x.feed(i % 2 == 0 ? 0 : 255), i);
        DUE.is("feed more", x.feed('q'), PaperHouses.FULL);
        DUE.is("BAD ahead of FULL", x.feed(256), PaperHouses.BAD);
        DUE.is("bytes", x.count(9), 90);
        DUE.is("nothing that is a token", x.paper(), -1000100);
        DUE.is("bytes then", x.count(9), 0);
        DUE.is("feed anew", x.feed(0), 1);
    }

    private static void good(String text, int cells) {
        PaperHouses x = new PaperHouses();
        DUE.is(text, Due.read(x, text), cells);
        DUE.is(text + ": fault()", x.fault(), 0);
        DUE.is(text + ": bytes", x.count(9), 0);
    }

    private static void goodPapers() {
        good(SIX, 6);
        good("q0;pabcdefghijabcdefghijabcd;", 24);
        good("q00;paaaaaa;", 6);
        good("q07;pjjjjjj;", 6);
        good("q24;pabcdef;", 6);
        good(SIX + "x1;x2;x3;x4;x5;", 6);
        good(SIX + "x05;", 6);
        good(SIX + "l0,0;d0,1;s0,0;o0,1;b00,01;", 6);
        good(SIX + "x3;l1,1;l1,0;", 6);
        good("q24;pabcdefghijabcdefghijabcd;x19;x20;x21;x22;x23;l5,1;d05,01;s5,1;o5,1;b5,01;", 24);
    }

    private static void bad(String text, int place, int fault) {
        PaperHouses x = new PaperHouses();
        DUE.is(text, Due.read(x, text), -1000100 - place);
        DUE.is(text + ": fault()", x.fault(), fault);
        DUE.is(text + ": cells", x.count(1), 0);
        DUE.is(text + ": bytes", x.count(9), 0);
    }

    private static void lawsAndPicturesAtFault() {
        bad("", 0, 1);
        bad("p", 0, 1);
        bad("Q1;", 0, 1);
        bad("123q", 0, 1);
        bad("q", 1, 1);
        bad("q;", 1, 1);
        bad("q 1;", 1, 1);
        bad("q25;", 1, 2);
        bad("q99", 1, 2);
        bad("q001;", 1, 1);
        bad("q12345;", 1, 1);
        bad("q1,", 2, 1);
        bad("q24", 3, 1);
        bad("q1;", 3, 1);
        bad("q1;pabcde;", 9, 1);
        bad("q1;pabcde", 9, 1);
        bad("q1;pabck", 7, 1);
        bad("q1;pabc1", 7, 1);
        bad("q1;pabcdef", 10, 1);
        bad("q1;pabcdefk;", 10, 1);
        bad("q1;pabcdef,", 10, 1);
        bad("q1;pabcdefghijabcdefghijabcde", 28, 3);
        bad("q1;pabcdefghijabcdefghijabcdk", 28, 1);
        bad("q1;pabcdefghijabcdefghijabcd", 28, 1);
        bad("q1;pabcdef" + (char) 225 + ";", 10, 1);
    }

    private static void wallsAtFault() {
        bad(SIX + "x", 12, 1);
        bad(SIX + "x;", 12, 1);
        bad(SIX + "x0;", 12, 2);
        bad(SIX + "x6;", 12, 2);
        bad(SIX + "x005;", 12, 1);
        bad(SIX + "x5", 13, 1);
        bad(SIX + "x5,", 13, 1);
        bad(SIX + "x3;x3;", 15, 2);
        bad(SIX + "x3;x2;", 15, 2);
        bad(SIX + "x5;x6;", 15, 2);
        bad(SIX + "x3;y4;", 14, 1);
        bad(SIX + ";", 11, 1);
        bad(SIX + "5", 11, 1);
        bad(SIX + "p", 11, 1);
        bad(SIX + "q", 11, 1);
        bad(TWELVE + "x1;x2;x3;x4;x5;x6;", 32, 3);
        bad(TWELVE + "x1;x2;x3;x4;x5;x", 32, 3);
        bad(TWELVE + "l0,0;x1;", 22, 1);
        bad(TWELVE + "x1;x2;x3;x4;x5;l0,0;x6;", 37, 1);
    }

    private static void folkAtFault() {
        bad(SIX + "l", 12, 1);
        bad(SIX + "l,", 12, 1);
        bad(SIX + "l1,0;", 12, 2);
        bad(SIX + "x3;l2,0;", 15, 2);
        bad(SIX + "l0", 13, 1);
        bad(SIX + "l0;", 13, 1);
        bad(SIX + "l0,", 14, 1);
        bad(SIX + "l0,2;", 14, 2);
        bad(SIX + "l0,10;", 14, 2);
        bad(SIX + "l0,000;", 14, 1);
        bad(SIX + "l0,0", 15, 1);
        bad(SIX + "l0,0,", 15, 1);
        bad(SIX + "a0,0;", 11, 1);
        bad(SIX + "l0,0;d0,0;s0,0;o0,0;b0,0;l0,0;", 36, 3);
        bad(SIX + "l0,0;d0,0;s0,0;o0,0;b0,0;b", 36, 3);
        bad(SIX + "l0,0;d0,0;s0,0;o0,0;b0,0;x", 36, 1);
        bad(SIX + "l0,0;d0,0;s0,0;o0,0;b0,0;;", 36, 1);
    }

    private static void faultsChangeNothing() {
        PaperHouses x = Due.of("q5;pabcabc;x2;l0,1;d1,0;");
        x.days(3);
        int[] before = new int[9];
        for (int what = 0; what < 9; what++) before[what] = x.count(what);
        DUE.is("a fault", Due.read(x, "q1;pabcdefg;x1;s0,0;b0,2;"), -1000123);
        DUE.is("its number", x.fault(), 2);
        for (int what = 0; what < 9; what++) DUE.is("count(" + what + ") stays", x.count(what), before[what]);
        DUE.is("kind stays", x.kind(1), 2);
        DUE.is("another fault", x.paper(), -1000100);
        DUE.is("its number", x.fault(), 1);
        DUE.is("good then", Due.read(x, SIX), 6);
        DUE.is("the latest fault stays", x.fault(), 1);
    }

    private static void aPaperStandsInPlaceOfTheOneBefore() {
        PaperHouses x = Due.of("q5;pabcabcab;x2;x5;l0,1;d1,0;");
        x.row(0, 0, 3);
        x.days(3);
        x.fade(1, 1);
        DUE.is("read", Due.read(x, "q0;pfedcba;x3;o1,0;"), 6);
        int[] counts = {1, 6, 1, 1, 0, 0, 0, 0, 0, 0};
        for (int what = 0; what < 10; what++) DUE.is("count(" + what + ")", x.count(what), counts[what]);
        DUE.is("undo", x.undo(), PaperHouses.STATE);
        DUE.is("figure", x.cell(0, 0), 5);
        DUE.is("kind", x.kind(0), 4);
        DUE.is("no second one", x.kind(1), PaperHouses.BAD);
        DUE.is("no third house", x.house(2, 0), PaperHouses.BAD);
        DUE.is("knows nothing", x.folk(0, 2), 0);
    }
}
