import java.io.IOException;
import java.lang.reflect.Method;
import java.lang.reflect.Modifier;
import java.nio.charset.StandardCharsets;
import java.nio.file.DirectoryStream;
import java.nio.file.Files;
import java.nio.file.Path;
import java.util.List;
import java.util.regex.Matcher;
import java.util.regex.Pattern;

/** README.md: its examples answer what stands behind them, and its tables name every call and every test. */
public final class ReadmeTest {
    private static final Pattern CALL = Pattern.compile("^x\\.(\\w+)\\(([-0-9, ]*)\\);\\s+// (-?\\d+|[A-Z]+): .*$");
    private static final Pattern TEXT = Pattern.compile("^String text = \"(.*)\";$");
    private static final Due DUE = new Due();

    private PaperHouses x;
    private int run;

    public static void main(String[] args) throws IOException, ReflectiveOperationException {
        String readme = Files.readString(Path.of("README.md"), StandardCharsets.UTF_8);
        new ReadmeTest().examples(List.of(readme.split("\n")));
        namesEveryCall(readme);
        namesEveryTest(readme);
        DUE.end();
    }

    private void examples(List<String> lines) throws ReflectiveOperationException {
        boolean inside = false;
        for (String line : lines) {
            if (line.startsWith("```")) inside = line.equals("```java");
            else if (inside) example(line);
        }
        DUE.holds("examples were run", run > 20);
    }

    private void example(String line) throws ReflectiveOperationException {
        Matcher text = TEXT.matcher(line);
        Matcher call = CALL.matcher(line);
        if (line.equals("PaperHouses x = new PaperHouses();")) x = new PaperHouses();
        else if (text.matches()) Due.feed(x, text.group(1));
        else if (call.matches()) {
            DUE.is(line, answer(call.group(1), call.group(2)), due(call.group(3)));
            run++;
        } else DUE.holds("a line that is understood: " + line, line.startsWith("for ") && line.endsWith("x.feed(text.charAt(i));"));
    }

    private int answer(String name, String numbers) throws ReflectiveOperationException {
        String[] parts = numbers.isEmpty() ? new String[0] : numbers.split(", ");
        Object[] arguments = new Object[parts.length];
        Class<?>[] types = new Class<?>[parts.length];
        for (int k = 0; k < parts.length; k++) {
            arguments[k] = Integer.valueOf(parts[k]);
            types[k] = int.class;
        }
        return (Integer) PaperHouses.class.getMethod(name, types).invoke(x, arguments);
    }

    private static int due(String told) {
        return switch (told) {
            case "NONE" -> PaperHouses.NONE;
            case "BAD" -> PaperHouses.BAD;
            case "STATE" -> PaperHouses.STATE;
            case "FULL" -> PaperHouses.FULL;
            default -> Integer.parseInt(told);
        };
    }

    private static void namesEveryCall(String readme) {
        String calls = readme.substring(readme.indexOf("## The calls"), readme.indexOf("## Tests"));
        for (Method m : PaperHouses.class.getDeclaredMethods()) {
            if (Modifier.isPublic(m.getModifiers())) DUE.holds(m.getName() + " is named", calls.contains("`" + m.getName() + "`"));
        }
    }

    private static void namesEveryTest(String readme) throws IOException {
        String tests = readme.substring(readme.indexOf("## Tests"));
        try (DirectoryStream<Path> files = Files.newDirectoryStream(Path.of("src/test/java"), "*Test.java")) {
            for (Path file : files) {
                String name = file.getFileName().toString().replace(".java", "");
                DUE.holds(name + " is named", tests.contains("| `" + name + "` |"));
            }
        }
    }
}
