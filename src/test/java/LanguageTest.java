import java.io.IOException;
import java.lang.reflect.Constructor;
import java.lang.reflect.Field;
import java.lang.reflect.Method;
import java.lang.reflect.Modifier;
import java.nio.charset.StandardCharsets;
import java.nio.file.Files;
import java.nio.file.Path;
import java.util.Arrays;
import java.util.HashSet;
import java.util.Set;
import java.util.TreeSet;
import java.util.regex.Matcher;
import java.util.regex.Pattern;

/** The public face, and those rules of LANGUAGE.md that show in the classes and in the text of the source. */
public final class LanguageTest {
    private static final String FACE = "row3 set3 copy5 drop1 feed1 paper0 fault0 days1 move2 fade2 put2 undo0 cell2 house2 folk2 "
        + "ahead3 all1 first1 both3 together1 beyond2 piece4 room1 rent2 fits5 settled5 drawn3 image1 restore1 kind1 as2 ask2 "
        + "trace1 count1 status0";
    private static final Due DUE = new Due();

    public static void main(String[] args) throws IOException {
        face();
        classesInside();
        String source = Files.readString(Path.of("src/main/java/PaperHouses.java"), StandardCharsets.ISO_8859_1);
        text(source);
        methodsAreShortAndMakeNothing(source);
        DUE.end();
    }

    private static void face() {
        Class<?> c = PaperHouses.class;
        DUE.holds("public and final", Modifier.isPublic(c.getModifiers()) && Modifier.isFinal(c.getModifiers()));
        DUE.is("constructors", c.getDeclaredConstructors().length, 1);
        Constructor<?> made = c.getDeclaredConstructors()[0];
        DUE.holds("its constructor", Modifier.isPublic(made.getModifiers()) && made.getParameterCount() == 0);
        Set<String> methods = new TreeSet<>();
        for (Method m : c.getDeclaredMethods()) {
            if (Modifier.isPrivate(m.getModifiers())) {
                DUE.holds(m + " bears no public name", !FACE.matches(".*\\b" + m.getName() + "\\d.*"));
                continue;
            }
            DUE.holds(m.getName() + " is public and of ints", Modifier.isPublic(m.getModifiers()) && !Modifier.isStatic(m.getModifiers())
                && m.getReturnType() == int.class && Arrays.stream(m.getParameterTypes()).allMatch(t -> t == int.class));
            methods.add(m.getName() + m.getParameterCount());
        }
        DUE.holds("methods of the face: " + methods, methods.equals(new TreeSet<>(Arrays.asList(FACE.split(" ")))));
        Set<String> constants = new TreeSet<>();
        for (Field f : c.getDeclaredFields()) {
            if (!Modifier.isPrivate(f.getModifiers())) constants.add(f.getName());
        }
        DUE.holds("constants: " + constants, constants.equals(Set.of("NONE", "BAD", "STATE", "FULL")));
        DUE.is("NONE", PaperHouses.NONE, -1000000);
        DUE.is("BAD", PaperHouses.BAD, -1000001);
        DUE.is("STATE", PaperHouses.STATE, -1000002);
        DUE.is("FULL", PaperHouses.FULL, -1000003);
    }

    private static void classesInside() {
        Set<String> face = new HashSet<>();
        for (String name : FACE.split(" ")) face.add(name.substring(0, name.length() - 1));
        Class<?>[] inside = PaperHouses.class.getDeclaredClasses();
        DUE.holds("classes: " + (inside.length + 1), inside.length + 1 <= 12);
        fields(PaperHouses.class);
        for (Class<?> c : inside) {
            int how = c.getModifiers();
            DUE.holds(c + " is static", Modifier.isStatic(how) && !Modifier.isPublic(how) && !Modifier.isProtected(how));
            fields(c);
            for (Method m : c.getDeclaredMethods()) {
                DUE.holds(m + " has a name of its own", !face.contains(m.getName()));
                DUE.holds(m + " takes at most seven", m.getParameterCount() <= 7);
            }
        }
    }

    private static void fields(Class<?> c) {
        int own = 0;
        for (Field f : c.getDeclaredFields()) {
            if (Modifier.isStatic(f.getModifiers())) DUE.holds(f + " is final", Modifier.isFinal(f.getModifiers()));
            else own++;
        }
        DUE.holds(c + " has " + own + " fields", own <= 20);
    }

    private static void text(String source) {
        for (int i = 0; i < source.length(); i++) {
            char sign = source.charAt(i);
            if (sign != '\n' && (sign < 32 || sign > 126)) DUE.is("a sign at " + i, sign, ' ');
        }
        String code = source.replaceAll("(?s)/\\*.*?\\*/", "").replaceAll("//[^\n]*", "");
        String[] words = {"throw", "throws", "try", "catch", "finally", "synchronized", "assert", "protected", "double", "float",
            "hashCode", "toString", "Object", "record", "package", "native", "volatile", "transient", "var", "yield"};
        for (String word : words) DUE.holds("no word " + word, !Pattern.compile("\\b" + word + "\\b").matcher(code).find());
        String[] signs = {"->", "::", "@", "\"", "Exact("};
        for (String sign : signs) DUE.holds("no " + sign, !code.contains(sign));
        Matcher imports = Pattern.compile("import ([^;]*);").matcher(code);
        while (imports.find()) DUE.holds(imports.group(), imports.group(1).equals("java.util.Arrays"));
        Matcher library = Pattern.compile("\\b(System|Arrays|Math|Integer|Long)\\.(\\w+)").matcher(code);
        Set<String> listed = Set.of("System.arraycopy", "Arrays.fill", "Math.abs", "Math.min", "Math.max", "Integer.bitCount");
        while (library.find()) DUE.holds(library.group(), listed.contains(library.group()));
    }

    private static void methodsAreShortAndMakeNothing(String source) {
        String[] lines = source.split("\n");
        for (int i = 0; i < lines.length; i++) {
            Matcher head = Pattern.compile("^( +)[\\w\\[\\] ]+\\(.*\\) \\{$").matcher(lines[i]);
            if (!head.find() || lines[i].trim().matches("(if|for|while|switch|else|do)\\b.*")) continue;
            int end = i;
            while (!lines[end].equals(head.group(1) + "}")) end++;
            DUE.holds("short: " + lines[i].trim(), end - i <= 60);
            if (lines[i].matches(" +(public|private) \\w+\\(.*")) continue;
            // What a run makes is counted: only constructors make objects, so calls may be as many as they like.
            for (int k = i; k < end; k++) DUE.holds("makes no object: " + lines[k].trim(), !lines[k].matches(".*\\bnew\\b.*"));
        }
    }
}
