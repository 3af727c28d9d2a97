import java.lang.reflect.InvocationTargetException;
import java.lang.reflect.Method;
import java.util.ArrayList;
import java.util.Arrays;
import java.util.Comparator;
import java.util.List;
import java.util.Random;

/** All promises: runs of calls by draws (always the same ones), the class against PlainHouses. */
public final class AgreementTest {
    private static final int RUNS = 1500, CALLS = 512;
    private static final int[] WRONG = {-1, -2, 2, 3, 5, 6, 8, 24, 25, 40, 41, 60, 61, 100, 1000, 9999, 1000000,
        Integer.MAX_VALUE, Integer.MIN_VALUE, Integer.MAX_VALUE - 1, Integer.MIN_VALUE + 1};
    private static final Due DUE = new Due();
    private static final List<Method> CLASS = faceOf(PaperHouses.class);
    private static final List<Method> PLAIN = faceOf(PlainHouses.class);

    private final Random draws;
    private final PaperHouses x = new PaperHouses();
    private final PlainHouses y = new PlainHouses();
    private final String name;
    private int calls;

    private AgreementTest(int run) {
        draws = new Random(run);
        name = "run " + run;
    }

    private static List<Method> faceOf(Class<?> c) {
        List<Method> face = new ArrayList<>();
        for (Method m : c.getDeclaredMethods()) {
            if (java.lang.reflect.Modifier.isPublic(m.getModifiers())) face.add(m);
        }
        face.sort(Comparator.comparing(Method::getName));
        return face;
    }

    public static void main(String[] args) {
        DUE.is("methods of the face", CLASS.size(), 35);
        DUE.is("methods of the other", PLAIN.size(), 35);
        for (int run = 0; run < RUNS; run++) new AgreementTest(run).run();
        DUE.end();
    }

    private static int answer(Method m, Object of, Object[] arguments) {
        try {
            return (Integer) m.invoke(of, arguments);
        } catch (InvocationTargetException | IllegalAccessException e) {
            throw new IllegalStateException(m.getName() + Arrays.toString(arguments), e);
        }
    }

    private int call(String method, Object... arguments) {
        int k = 0;
        while (!CLASS.get(k).getName().equals(method)) k++;
        calls++;
        int due = answer(PLAIN.get(k), y, arguments);
        DUE.is(name + ", call " + calls + ": " + method + Arrays.toString(arguments), answer(CLASS.get(k), x, arguments), due);
        return due;
    }

    private void run() {
        while (calls < CALLS - 110) {
            if (draws.nextInt(40) == 0 || calls == 0 && draws.nextInt(10) > 0) read();
            else if (draws.nextInt(30) == 0) layCounts();
            else one(CLASS.get(draws.nextInt(CLASS.size())));
        }
    }

    private void read() {
        String text = text();
        if (draws.nextInt(3) == 0) text = spoilt(text);
        for (int i = 0; i < text.length(); i++) call("feed", (int) text.charAt(i));
        call("paper");
        call("fault");
    }

    private String text() {
        StringBuilder s = new StringBuilder("q");
        s.append(draws.nextInt(3) == 0 ? 0 : draws.nextInt(25)).append(";p");
        int cells = 6 + draws.nextInt(draws.nextBoolean() ? 19 : 6);
        int kinds = 1 + draws.nextInt(10);
        int period = 1 + draws.nextInt(cells);
        for (int c = 0; c < cells; c++) s.append(c >= period && draws.nextInt(20) > 0 ? s.charAt(s.length() - period) : (char) ('a' + draws.nextInt(kinds)));
        s.append(';');
        int walls = 0;
        int limit = draws.nextInt(6);
        for (int c = 1; c < cells && walls < limit; c++) {
            if (draws.nextInt(cells) >= limit + 1) continue;
            s.append('x').append(c < 10 && draws.nextInt(5) == 0 ? "0" : "").append(c).append(';');
            walls++;
        }
        int folk = draws.nextInt(6);
        for (int f = 0; f < folk; f++) {
            s.append("ldsob".charAt(draws.nextInt(5))).append(draws.nextInt(walls + 1)).append(',').append(draws.nextInt(2)).append(';');
        }
        return s.toString();
    }

    private String spoilt(String text) {
        StringBuilder s = new StringBuilder(text);
        String signs = "qpxldsobabcjkz0123456789,;;  Q" + (char) 0 + (char) 255 + (char) 178;
        for (int k = 0; k < 1 + draws.nextInt(2); k++) {
            int at = draws.nextInt(s.length() + 1);
            char sign = signs.charAt(draws.nextInt(signs.length()));
            int how = draws.nextInt(5);
            if (how == 0) s.insert(at, sign);
            else if (how == 1 && at < s.length()) s.setCharAt(at, sign);
            else if (how == 2 && at < s.length()) s.deleteCharAt(at);
            else if (how == 3) s.setLength(Math.max(1, at));
            else s.append(new String[] {"x1;", "x23;", "l0,0;", "b0,1;b0,1;b0,1;", "x5;x6;x7;", "q"}[draws.nextInt(6)]);
        }
        return s.length() > 90 ? s.substring(0, 90) : s.toString();
    }

    /** A row that tells what one of the folk will truly know, so that something fits. */
    private void layCounts() {
        int folk = draws.nextInt(5);
        int n = 1 + draws.nextInt(6);
        int row = draws.nextInt(8);
        call("row", row, draws.nextInt(3), n);
        for (int d = 1; d <= n; d++) {
            int known = y.ahead(folk, d, 1);
            call("set", row, d - 1, known < 0 ? 0 : Integer.bitCount(known));
        }
        for (int what = 0; what < 4; what++) call("fits", folk, row, 0, n, what);
    }

    private void one(Method m) {
        String method = m.getName();
        if ((method.equals("restore") || method.equals("paper") || method.equals("feed")) && draws.nextInt(4) > 0) return;
        // Trying all places of walls takes the plain one long.
        if (method.equals("room") && y.count(2) > 3 && draws.nextInt(20) > 0) return;
        Object[] arguments = new Object[m.getParameterCount()];
        int most = mostOf(method);
        for (int k = 0; k < arguments.length; k++) {
            arguments[k] = draws.nextInt(25) == 0 ? WRONG[draws.nextInt(WRONG.length)] : draws.nextInt(mostOf(method, k, most));
        }
        call(method, arguments);
        if (method.equals("ask")) {
            for (int i = 0; i < 7; i++) call("trace", i);
        }
        if (method.equals("as") || m.getParameterCount() >= 3) call("status");
    }

    private static int mostOf(String method) {
        return switch (method) {
            case "feed" -> 256;
            case "days" -> 25;
            case "room" -> 9;
            case "count" -> 10;
            default -> 6;
        };
    }

    /** Below which number an argument is drawn: mostly there is such a thing. */
    private int mostOf(String method, int k, int most) {
        String place = method + k;
        return switch (place) {
            case "row1", "house1" -> 3;
            case "row2" -> draws.nextBoolean() ? 13 : 41;
            case "set1" -> 12;
            case "set2" -> draws.nextInt(5) == 0 ? Integer.MAX_VALUE : 10;
            case "move1", "fade1", "ahead2", "first0", "both2", "together0", "piece3", "settled4", "drawn2", "image0", "restore0", "ask1" -> 2;
            case "fade0", "cell0", "settled1" -> Math.max(1, y.count(1));
            case "cell1", "fits4" -> 4;
            case "ahead1", "drawn0" -> 61;
            case "beyond1" -> 100;
            case "piece2", "fits3" -> draws.nextInt(3) > 0 ? 4 : 13;
            case "rent1" -> 1000;
            case "settled2" -> 21;
            case "settled3" -> 11;
            case "drawn1" -> 1000000;
            default -> most;
        };
    }
}
