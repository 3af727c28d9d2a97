import java.lang.reflect.InvocationTargetException;
import java.lang.reflect.Method;
import java.lang.reflect.Modifier;
import java.util.Arrays;

/** Every call with the farthest numbers that there are, and as many calls as an object is used for. */
public final class CallsTest {
    private static final int MAX = Integer.MAX_VALUE, MIN = Integer.MIN_VALUE;
    private static final int[] FAR = {MIN, MIN + 1, -1, 0, 1, 2, MAX - 1, MAX};
    private static final int CALLS = 512;
    private static final String MOST = "q24;pabcdefghijabcdefghijabcd;x03;x07;x12;x18;x22;l05,01;d05,01;s05,01;o05,01;b05,01;";
    private static final String[] PAPERS = {"", "q0;pabcdef;", "q5;pabacabad;x3;x5;l0,1;d2,0;s1,1;", MOST};
    private static final Due DUE = new Due();

    private PaperHouses x;
    private PlainHouses y;
    private int calls;

    public static void main(String[] args) {
        new CallsTest().farNumbers();
        asManyCallsAsThereAre();
        feedsAlone();
        objectsBesideOneAnother();
        DUE.end();
    }

    // No call throws, and each answers what the second writing of the document does.
    private void farNumbers() {
        for (Method m : PaperHouses.class.getDeclaredMethods()) {
            if (!Modifier.isPublic(m.getModifiers())) continue;
            for (String paper : PAPERS) {
                begin(paper);
                tryAll(m, paper);
            }
        }
    }

    private void begin(String paper) {
        x = new PaperHouses();
        y = new PlainHouses();
        calls = paper.length() + 1;
        for (int i = 0; i < paper.length(); i++) {
            x.feed(paper.charAt(i));
            y.feed(paper.charAt(i));
        }
        if (paper.isEmpty()) return;
        x.paper();
        y.paper();
    }

    private void tryAll(Method m, String paper) {
        int many = 1;
        for (int k = 0; k < m.getParameterCount(); k++) many *= FAR.length;
        for (int which = 0; which < many; which++) {
            if (calls >= CALLS) begin(paper);
            Object[] numbers = new Object[m.getParameterCount()];
            for (int k = 0, left = which; k < numbers.length; k++, left /= FAR.length) numbers[k] = FAR[left % FAR.length];
            DUE.is(m.getName() + Arrays.toString(numbers) + " of " + paper, answer(m, x, numbers), answer(plain(m), y, numbers));
            calls++;
        }
    }

    private static Method plain(Method m) {
        try {
            return PlainHouses.class.getDeclaredMethod(m.getName(), m.getParameterTypes());
        } catch (NoSuchMethodException e) {
            throw new IllegalStateException(e);
        }
    }

    private static int answer(Method m, Object of, Object[] numbers) {
        try {
            return (Integer) m.invoke(of, numbers);
        } catch (InvocationTargetException | IllegalAccessException e) {
            throw new IllegalStateException(m.getName() + Arrays.toString(numbers), e);
        }
    }

    private static void asManyCallsAsThereAre() {
        DUE.says("An object is used for at most 512 calls after it has been made");
        PaperHouses x = Due.of(MOST);
        x.row(0, 2, 12);
        int used = MOST.length() + 2;
        int first = x.settled(1, 12, 20, 3, 0);
        used++;
        for (; used < CALLS - 4; used++) DUE.is("settled, call " + (used + 1), x.settled(1, 12, 20, 3, 0), first);
        DUE.is("call 509", x.drawn(60, 999999, 1), Due.of(MOST).drawn(60, 999999, 1));
        DUE.is("call 510", x.fits(4, 0, 0, 12, 3), 0);
        DUE.is("call 511", x.days(24), Due.of(MOST).days(24));
        DUE.is("call 512", x.count(4), 24);
    }

    // Feeding and reading are calls, too: as many papers as go into 512 calls, each in place of the one before.
    private static void feedsAlone() {
        DUE.says("what later calls answer is free.");
        PaperHouses x = new PaperHouses();
        int used = 0;
        for (int k = 0; used + 12 <= CALLS; k++) {
            DUE.is("paper " + k, Due.read(x, "q" + k % 10 + ";pabcdef;"), 6);
            used += 12;
        }
        for (; used < CALLS - 1; used++) x.feed('q');
        DUE.is("call 512", x.count(5), 1);
        PaperHouses acts = Due.of("q0;pabcdef;");
        for (int k = 12; k < CALLS; k++) DUE.is("acts, call " + (k + 1), acts.fade(0, k % 2 == 0 ? 1 : 0), k % 2 == 0 ? 1 : 0);
    }

    private static void objectsBesideOneAnother() {
        DUE.says("An object is used");
        PaperHouses[] many = new PaperHouses[200];
        for (int k = 0; k < many.length; k++) many[k] = Due.of("q" + k % 25 + ";pabcdef;" + "x1;x2;x3;x4;x5;".substring(0, k % 6 * 3) + "l0,1;");
        for (int k = 0; k < many.length; k++) many[k].row(k % 8, k % 3, k % 41);
        for (int k = 0; k < many.length; k++) many[k].days(k % 24 + 1);
        for (int k = 0; k < many.length; k++) {
            DUE.is("law of " + k, many[k].count(5), k % 25);
            DUE.is("walls of " + k, many[k].count(2), k % 6);
            DUE.is("day of " + k, many[k].count(4), k % 24 + 1);
            DUE.is("acts of " + k, many[k].count(8), k % 24 + 1);
            DUE.is("row of " + k, many[k].drop(k % 8), k % 41);
            DUE.is("undo of " + k, many[k].undo(), k % 24);
        }
    }
}
