import java.lang.reflect.InvocationTargetException;
import java.lang.reflect.Method;
import java.util.ArrayList;
import java.util.Arrays;
import java.util.HashMap;
import java.util.List;
import java.util.Map;

/**
 * What changes nothing: of two objects that are alike one is called, and then both must answer all the same.
 * By this each number of each call is tried: the ends of what is taken, and what lies beyond them.
 */
public final class RefusedTest {
    private static final int BAD = PaperHouses.BAD, STATE = PaperHouses.STATE, FULL = PaperHouses.FULL;
    private static final int NULL = -1000011, PLACE = -1000012, KIND = -1000013, SIZE = -1000014, STORE = -1000015;
    private static final int ANY = 1;
    private static final int MAX = Integer.MAX_VALUE, MIN = Integer.MIN_VALUE;
    private static final int STATUS_AHEAD = 5;
    private static final Due DUE = new Due();
    private static final Map<String, Method> FACE = face();

    /** Where an object stands when it is called. */
    private enum Stage { NEW, STANDING, BARE, PACKED, FULL_TAPE, LAST_DAY }

    private record Call(String method, int... numbers) {
        int on(PaperHouses x) {
            Object[] boxed = Arrays.stream(numbers).boxed().toArray();
            try {
                return (Integer) FACE.get(method).invoke(x, boxed);
            } catch (InvocationTargetException | IllegalAccessException e) {
                throw new IllegalStateException(toString(), e);
            }
        }

        Call with(int place, int number) {
            int[] changed = numbers.clone();
            changed[place] = number;
            return new Call(method, changed);
        }

        public String toString() {
            return method + Arrays.toString(numbers);
        }
    }

    public static void main(String[] args) {
        badNumbers();
        found();
        refusedByState();
        refusedAsFull();
        withoutAPaper();
        papersAtFault();
        questions();
        DUE.end();
    }

    private static Map<String, Method> face() {
        Map<String, Method> face = new HashMap<>();
        for (Method m : PaperHouses.class.getMethods()) {
            if (m.getDeclaringClass() == PaperHouses.class) face.put(m.getName(), m);
        }
        return face;
    }

    // ---- where the objects stand; each with a finding of 5, so that a status that changes is seen

    private static PaperHouses at(Stage stage) {
        PaperHouses x = new PaperHouses();
        switch (stage) {
            case STANDING -> stand(x);
            case BARE -> Due.read(x, "q0;pabcdef;");
            case PACKED -> Due.read(x, "q1;pabcdef;x1;x2;x3;x4;x5;l0,0;");
            case FULL_TAPE -> {
                Due.read(x, "q1;pabcdef;x3;l0,0;");
                Due.feed(x, "q".repeat(90));
            }
            case LAST_DAY -> {
                Due.read(x, "q5;pabcdef;l0,0;");
                for (int k = 0; k < 416; k++) x.days(24);
                x.days(15);
            }
            default -> { }
        }
        x.row(0, 0, 5);
        x.row(1, 1, 3);
        x.set(0, 4, 3);
        x.set(1, 0, 2);
        x.copy(0, 0, 1, 0, 1);
        return x;
    }

    private static void stand(PaperHouses x) {
        x.row(2, 2, 12);
        for (int i = 0; i < 12; i++) x.set(2, i, i % 4);
        x.row(3, 2, 0);
        x.row(7, 2, 40);
        x.set(7, 39, 2);
        Due.read(x, "q99;");
        Due.read(x, "q3;pabacabadab;x3;x7;l0,1;d2,0;s1,1;o1,0;b0,0;");
        x.days(2);
        x.image(0);
        x.move(0, 1);
        x.fade(4, 1);
        x.put(0, 2);
        x.ask(3, 1);
        Due.feed(x, "q3;pabcd");
    }

    // ---- what is looked at then; some of it changes the objects, so each has two of its own

    private static void addLook(List<Call> calls) {
        for (int what = 0; what < 10; what++) calls.add(new Call("count", what));
        for (int f = 0; f < 5; f++) {
            for (int what = 0; what < 5; what++) calls.add(new Call("folk", f, what));
            calls.add(new Call("kind", f));
        }
        for (int h = 0; h < 6; h++) calls.add(new Call("house", h, 1));
    }

    private static List<Call> look() {
        List<Call> calls = new ArrayList<>();
        calls.add(new Call("fault"));
        for (int i = 0; i < 17; i++) calls.add(new Call("trace", i));
        addLook(calls);
        for (int c = 0; c < 10; c++) {
            for (int what = 0; what < 4; what++) calls.add(new Call("cell", c, what));
        }
        return calls;
    }

    private static List<Call> lookAtRows() {
        List<Call> calls = new ArrayList<>();
        for (int r = 0; r < 8; r++) {
            for (int i = 0; i < 12; i++) calls.add(new Call("piece", r, i, 1, 1));
            calls.add(new Call("piece", r, 39, 1, 1));
            calls.add(new Call("set", r, 0, 0x12345678));
            calls.add(new Call("drop", r));
        }
        return calls;
    }

    private static List<Call> lookBack() {
        List<Call> calls = new ArrayList<>();
        for (int k = 0; k < 6; k++) {
            calls.add(new Call("undo"));
            addLook(calls);
        }
        return calls;
    }

    private static List<Call> lookAtImages() {
        List<Call> calls = new ArrayList<>();
        for (int k = 0; k < 2; k++) {
            calls.add(new Call("restore", k));
            addLook(calls);
        }
        return calls;
    }

    private static List<Call> lookAtTape() {
        List<Call> calls = new ArrayList<>();
        for (char sign : "ef;x2;l1,0;".toCharArray()) calls.add(new Call("feed", sign));
        calls.add(new Call("paper"));
        addLook(calls);
        return calls;
    }

    private static List<Call> lookAhead() {
        List<Call> calls = new ArrayList<>();
        for (int f = 0; f < 5; f++) {
            calls.add(new Call("ahead", f, 9, 1));
            calls.add(new Call("all", f));
            calls.add(new Call("beyond", f, 50));
            calls.add(new Call("settled", f, 3, 4, 3, 0));
            calls.add(new Call("ask", f, 0));
        }
        for (int k = 1; k <= 8; k++) calls.add(new Call("room", k));
        for (int n = 1; n <= 40; n++) calls.add(new Call("drawn", n, 77, n % 2));
        return calls;
    }

    // Few calls, for an object that has had nearly all that it may have.
    private static List<Call> lookShortly() {
        List<Call> calls = new ArrayList<>();
        for (int what = 0; what < 10; what++) calls.add(new Call("count", what));
        for (int what = 0; what < 5; what++) calls.add(new Call("folk", 0, what));
        calls.add(new Call("undo"));
        calls.add(new Call("count", 4));
        calls.add(new Call("days", 1));
        calls.add(new Call("days", 1));
        return calls;
    }

    private static List<List<Call>> looks(Stage stage) {
        if (stage == Stage.LAST_DAY) return List.of(lookShortly());
        return List.of(look(), lookAtRows(), lookBack(), lookAtImages(), lookAtTape(), lookAhead());
    }

    private static void compare(String when, PaperHouses x, PaperHouses y, List<Call> calls) {
        for (Call call : calls) DUE.is(when + ", then " + call, call.on(x), call.on(y));
    }

    /** The call answers what is due (or anything), leaves the status that is due, and changes nothing else. */
    private static void changesNothing(Stage stage, int due, int status, Call call) {
        for (List<Call> calls : looks(stage)) {
            PaperHouses x = at(stage);
            int got = call.on(x);
            if (due != ANY) DUE.is(stage + ", " + call, got, due);
            else DUE.holds(stage + ", " + call + " is not refused, but " + got, got >= PaperHouses.NONE);
            DUE.is(stage + ", status of " + call, x.status(), status);
            compare(stage + ", " + call, x, at(stage), calls);
        }
    }

    private static void refused(Stage stage, int due, String method, int... numbers) {
        changesNothing(stage, due, STATUS_AHEAD, new Call(method, numbers));
    }

    private static void found(Stage stage, int due, String method, int... numbers) {
        changesNothing(stage, due, -1000010 - due, new Call(method, numbers));
    }

    /** All other numbers being good, number by number: below the first that is taken, above the last, far below, far above. */
    private static void bad(String method, int[] good, int[]... ends) {
        for (int k = 0; k < ends.length; k++) {
            if (ends[k].length == 0) continue;
            Call call = new Call(method, good);
            int[] beyond = {ends[k][0] - 1, ends[k][1] + 1, MIN, MAX};
            for (int number : beyond) changesNothing(Stage.STANDING, BAD, STATUS_AHEAD, call.with(k, number));
        }
    }

    private static int[] good(int... numbers) {
        return numbers;
    }

    private static int[] ends(int least, int most) {
        return new int[] {least, most};
    }

    private static void badNumbers() {
        DUE.says("BAD (a number is not as told; there is no such thing)");
        int[] rows = ends(0, 7), folk = ends(0, 4), houses = ends(0, 2), cells = ends(0, 9), bit = ends(0, 1), free = {};
        bad("row", good(0, 0, 2), rows, ends(0, 2));
        refused(Stage.STANDING, BAD, "row", 0, 0, 41);
        refused(Stage.STANDING, BAD, "row", 0, 0, MAX);
        bad("set", good(0, 0, 1), rows);
        bad("copy", good(0, 0, 0, 1, 2), rows, free, rows);
        bad("drop", good(0), rows);
        bad("feed", good('e'), ends(0, 255));
        bad("days", good(1), ends(1, 24));
        bad("move", good(0, 1), ends(0, 1), bit);
        bad("fade", good(5, 1), cells, bit);
        bad("put", good(1, 1), folk, houses);
        bad("cell", good(1, 1), cells, ends(0, 3));
        bad("house", good(1, 1), houses, ends(0, 2));
        bad("folk", good(1, 1), folk, ends(0, 4));
        bad("ahead", good(1, 1, 1), folk, ends(0, 60), bit);
        bad("all", good(1), folk);
        bad("first", good(1), bit);
        bad("both", good(1, 2, 1), folk, folk, bit);
        for (int f = 0; f < 5; f++) refused(Stage.STANDING, BAD, "both", f, f, 0);
        bad("together", good(1), bit);
        bad("beyond", good(1, 1), folk, ends(0, 99));
        bad("piece", good(2, 0, 1, 1), rows, free, ends(1, 12), bit);
        bad("room", good(1), ends(1, 8));
        bad("rent", good(1, 1), houses, ends(0, 999));
        bad("fits", good(1, 2, 0, 1, 1), folk, rows, free, ends(1, 12), ends(0, 3));
        bad("settled", good(1, 1, 1, 1, 1), folk, cells, ends(0, 20), ends(0, 10), bit);
        bad("drawn", good(1, 1, 1), ends(0, 60), ends(1, 999999), bit);
        bad("image", good(1), bit);
        bad("restore", good(0), bit);
        bad("kind", good(1), folk);
        bad("as", good(1, 1), folk, ends(0, 5));
        bad("ask", good(1, 1), folk, bit);
        bad("count", good(1), ends(0, 9));
    }

    private static void found() {
        DUE.says("What is refused, or found, changes nothing but status().");
        int[] fewer = {-1, MIN};
        for (int n : fewer) {
            found(Stage.STANDING, SIZE, "row", 0, 0, n);
            found(Stage.STANDING, SIZE, "row", 6, 2, n);
        }
        found(Stage.STANDING, NULL, "set", 4, 0, 1);
        found(Stage.STANDING, NULL, "copy", 4, 0, 0, 0, 1);
        found(Stage.STANDING, NULL, "copy", 0, 0, 4, 0, 1);
        found(Stage.STANDING, NULL, "drop", 4);
        found(Stage.STANDING, NULL, "piece", 4, 0, 1, 0);
        found(Stage.STANDING, NULL, "fits", 0, 4, 0, 1, 0);
        found(Stage.STANDING, STORE, "copy", 0, 0, 1, 0, 1);
        found(Stage.STANDING, STORE, "copy", 2, 0, 1, 0, 0);
        int[] beyondFive = {-1, 5, MIN, MAX};
        for (int i : beyondFive) {
            found(Stage.STANDING, PLACE, "set", 0, i, 1);
            found(Stage.STANDING, PLACE, "copy", 0, i, 0, 0, 1);
            found(Stage.STANDING, PLACE, "copy", 0, 0, 0, i, 1);
            found(Stage.STANDING, PLACE, "piece", 0, i, 1, 0);
            found(Stage.STANDING, PLACE, "fits", 0, 0, i, 1, 0);
        }
        found(Stage.STANDING, PLACE, "set", 3, 0, 1);
        found(Stage.STANDING, PLACE, "copy", 0, 1, 0, 0, 5);
        found(Stage.STANDING, PLACE, "copy", 0, 0, 0, 1, 5);
        found(Stage.STANDING, PLACE, "copy", 0, 0, 0, 0, -1);
        found(Stage.STANDING, PLACE, "copy", 2, 0, 7, 29, 12);
        found(Stage.STANDING, PLACE, "piece", 0, 4, 2, 0);
        found(Stage.STANDING, PLACE, "fits", 0, 0, 4, 2, 3);
        found(Stage.STANDING, KIND, "as", 0, 2);
        found(Stage.STANDING, KIND, "as", 4, 1);
    }

    private static void refusedByState() {
        DUE.says("STATE (as told)");
        refused(Stage.STANDING, STATE, "fade", 4, 1);
        refused(Stage.STANDING, STATE, "fade", 5, 0);
        refused(Stage.STANDING, STATE, "restore", 1);
        for (int wall = 0; wall < 5; wall++) {
            refused(Stage.PACKED, STATE, "move", wall, 0);
            refused(Stage.PACKED, STATE, "move", wall, 1);
        }
        refused(Stage.PACKED, BAD, "move", 5, 1);
        refused(Stage.PACKED, BAD, "house", 6, 0);
        refused(Stage.PACKED, BAD, "rent", 6, 0);
        refused(Stage.PACKED, BAD, "put", 0, 6);
        refused(Stage.PACKED, BAD, "put", 1, 0);
        refused(Stage.PACKED, BAD, "cell", 6, 0);
        refused(Stage.PACKED, BAD, "fade", 6, 1);
        refused(Stage.PACKED, STATE, "undo");
        refused(Stage.BARE, STATE, "undo");
        refused(Stage.BARE, STATE, "restore", 0);
        refused(Stage.BARE, BAD, "move", 0, 1);
        refused(Stage.BARE, BAD, "put", 0, 0);
        refused(Stage.BARE, BAD, "ask", 0, 0);
        refused(Stage.BARE, BAD, "house", 1, 0);
    }

    private static void refusedAsFull() {
        DUE.says("FULL (as told)");
        refused(Stage.FULL_TAPE, FULL, "feed", 0);
        refused(Stage.FULL_TAPE, FULL, "feed", 'q');
        refused(Stage.FULL_TAPE, FULL, "feed", 255);
        refused(Stage.FULL_TAPE, BAD, "feed", -1);
        refused(Stage.FULL_TAPE, BAD, "feed", 256);
        int[] days = {1, 2, 23, 24};
        for (int n : days) refused(Stage.LAST_DAY, FULL, "days", n);
        refused(Stage.LAST_DAY, BAD, "days", 0);
        refused(Stage.LAST_DAY, BAD, "days", 25);
    }

    private static void withoutAPaper() {
        DUE.says("BAD; STATE: no PAPER (ahead of BAD)");
        int[] bits = {0, 1, 2, -1};
        for (int what : bits) {
            refused(Stage.NEW, STATE, "first", what);
            refused(Stage.NEW, STATE, "together", what);
            refused(Stage.NEW, STATE, "drawn", 1, 1, what);
            refused(Stage.NEW, STATE, "piece", 0, 0, 1, what);
            refused(Stage.NEW, what == 0 || what == 1 ? STATE : BAD, "image", what);
            refused(Stage.NEW, what == 0 || what == 1 ? STATE : BAD, "restore", what);
        }
        int[] numbers = {0, 1, 8, 9, 24, 25};
        for (int n : numbers) {
            refused(Stage.NEW, STATE, "days", n);
            refused(Stage.NEW, STATE, "room", n);
            refused(Stage.NEW, STATE, "piece", n, n, n, 0);
            refused(Stage.NEW, STATE, "drawn", n, n, 0);
        }
        refused(Stage.NEW, STATE, "undo");
        refused(Stage.NEW, BAD, "move", 0, 1);
        refused(Stage.NEW, BAD, "fade", 0, 1);
        refused(Stage.NEW, BAD, "put", 0, 0);
        refused(Stage.NEW, BAD, "fits", 0, 0, 0, 1, 0);
        refused(Stage.NEW, BAD, "fits", 0, 4, 0, 1, 0);
        refused(Stage.NEW, BAD, "as", 0, 0);
        refused(Stage.NEW, BAD, "ask", 0, 0);
    }

    // The tape is empty then, as it is told; so the bytes on it are let go on both sides.
    private static void papersAtFault() {
        DUE.says("-1000100 less the place of a FAULT: all stays.");
        String[] faults = {"", "q25;", "q1;pabcde;", "q1;pjihgfedcbajihgfedcbajihgfe", "q1;pjjjjjj;x6;", "q1;pjjjjjj;x1;b1,0;l2,0;",
            "q1;pjjjjjj;x1;x2;x3;x4;x5;x6;", "q1;pjjjjjj;b0,1;b0,1;b0,1;b0,1;b0,1;b0,1;", "q1;pjjjjjj;x1;b1,0;b1,0"};
        for (Stage stage : new Stage[] {Stage.NEW, Stage.STANDING, Stage.PACKED}) {
            for (String text : faults) {
                for (List<Call> calls : looks(stage)) {
                    PaperHouses x = at(stage);
                    PaperHouses y = at(stage);
                    x.paper();
                    y.paper();
                    DUE.holds("a fault in " + text, Due.read(x, text) <= -1000100);
                    DUE.is("status", x.status(), STATUS_AHEAD);
                    List<Call> others = new ArrayList<>(calls);
                    others.removeIf(call -> call.method().equals("fault"));
                    compare(stage + ", a fault in " + text, x, y, others);
                }
            }
        }
    }

    private static void questions() {
        DUE.says("FORETOLD (nothing changes)");
        int[][] folk = {{0, 0}, {4, 4}};
        for (int[] f : folk) {
            asked("ahead", f[0], 60, 1);
            asked("all", f[0]);
            asked("both", f[0], 2, 1);
            asked("beyond", f[0], 99);
            asked("settled", f[0], 9, 20, 7, 0);
            asked("kind", f[0]);
            asked("folk", f[0], f[1]);
            for (int what = 0; what < 4; what++) changesNothing(Stage.STANDING, ANY, 0, new Call("fits", f[0], 2, 0, 12, what));
            changesNothing(Stage.STANDING, ANY, 0, new Call("as", f[0], 0));
        }
        for (int what = 0; what < 2; what++) {
            asked("first", what);
            asked("together", what);
            asked("drawn", 60, 999999, what);
            changesNothing(Stage.STANDING, ANY, 0, new Call("piece", 2, 0, 12, what));
        }
        for (int k = 1; k <= 8; k++) asked("room", k);
        for (int h = 0; h < 3; h++) asked("rent", h, 999);
        for (int what = 0; what < 10; what++) asked("count", what);
        asked("cell", 9, 3);
        asked("house", 2, 2);
        asked("trace", 0);
        asked("trace", -1);
        asked("fault");
        asked("status");
        changesNothing(Stage.STANDING, 0, 0, new Call("copy", 3, 0, 2, 12, 0));
        changesNothing(Stage.STANDING, 5, 0, new Call("copy", 0, 0, 0, 0, 5));
    }

    private static void asked(String method, int... numbers) {
        changesNothing(Stage.STANDING, ANY, STATUS_AHEAD, new Call(method, numbers));
    }
}
