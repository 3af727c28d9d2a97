import java.io.IOException;
import java.nio.charset.StandardCharsets;
import java.nio.file.Files;
import java.nio.file.Path;

/** Counts answers that are not the ones that are due; a test ends with it. */
final class Due {
    private static final Path DOCUMENT = Path.of("../shared/DOC.md");

    private final String document = document();
    private String sentence = "";
    private int sentences;
    private int wrong;
    private int looked;

    /** What is looked at from now on is this sentence of the document, in the words that stand there. */
    void says(String words) {
        sentence = words + ": ";
        sentences++;
        if (!document.isEmpty()) holds("it stands in the document", document.contains(words));
    }

    void is(String call, int got, int want) {
        looked++;
        if (got == want) return;
        wrong++;
        if (wrong <= 40) System.out.println(sentence + call + " answered " + got + ", due is " + want);
    }

    void holds(String what, boolean so) {
        is(what, so ? 1 : 0, 1);
    }

    void end() {
        if (sentences > 0) System.out.print(sentences + " sentences, ");
        System.out.println(looked + " looked at, " + wrong + " not as due");
        if (wrong != 0 || looked == 0) System.exit(1);
    }

    // The tests stand without the document, too: then the words are not looked up.
    private static String document() {
        try {
            return Files.isReadable(DOCUMENT) ? Files.readString(DOCUMENT, StandardCharsets.UTF_8) : "";
        } catch (IOException e) {
            return "";
        }
    }

    static void feed(PaperHouses x, String text) {
        for (int i = 0; i < text.length(); i++) x.feed(text.charAt(i));
    }

    static int read(PaperHouses x, String text) {
        feed(x, text);
        return x.paper();
    }

    static PaperHouses of(String text) {
        PaperHouses x = new PaperHouses();
        if (read(x, text) < 0) throw new IllegalStateException("the test's own paper is at fault: " + text);
        return x;
    }

    /** A row of ints with these items. */
    static void lay(PaperHouses x, int row, int... items) {
        x.row(row, 2, items.length);
        for (int i = 0; i < items.length; i++) x.set(row, i, items[i]);
    }
}
