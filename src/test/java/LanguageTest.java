import java.io.IOException;
import java.lang.reflect.Constructor;
import java.lang.reflect.Field;
import java.lang.reflect.Method;
import java.lang.reflect.Modifier;
import java.nio.charset.StandardCharsets;
import java.nio.file.Files;
import java.nio.file.Path;
import java.util.Set;
import java.util.TreeSet;
import java.util.regex.Matcher;
import java.util.regex.Pattern;

/** The face of the class, and of the rules of ../shared/LANGUAGE.md those that can be seen from outside or in the text. */
final class LanguageTest {
    private static final Set<String> FACE = new TreeSet<>(Set.of(
        "boolean way(int,int,int)", "boolean place(int,int,int,int)", "boolean more(int,boolean,int)",
        "boolean key(int,int)", "boolean heart(int)", "int feed(int,int,int,int,int)", "int law(int)",
        "int tale(int,int)", "int soonest(int)", "int plan(int)", "int missed(int)", "int hidden(int,int)",
        "int night(int)", "int tried(int,int)", "long story(int,int,int)", "long toDust(int,int,int)",
        "long lots(int,int)", "boolean egg(int,boolean)", "boolean test(int,int)", "int apart(int)",
        "int alike(int,int)", "boolean owes(int,int)", "int rings(int,int)", "int placeIs(int,int)",
        "boolean seed(int)", "int keep()", "boolean undo()", "int check(int)", "int count(int)"));

    private LanguageTest() {
    }

    private static void due(String what, boolean is) {
        Check.due(what, is, true);
    }

    private static void face() {
        Class<?> face = GiantHeart.class;
        due("public and final", face.getModifiers() == (Modifier.PUBLIC | Modifier.FINAL));
        Set<String> found = new TreeSet<>();
        Set<String> names = new TreeSet<>();
        for (Method m : face.getDeclaredMethods()) {
            if (Modifier.isPrivate(m.getModifiers()) || m.isSynthetic()) {
                continue;
            }
            due(m + " is public alone", m.getModifiers() == Modifier.PUBLIC);
            StringBuilder types = new StringBuilder();
            for (Class<?> type : m.getParameterTypes()) {
                types.append(types.length() > 0 ? "," : "").append(type.getName());
            }
            found.add(m.getReturnType().getName() + " " + m.getName() + "(" + types + ")");
            names.add(m.getName());
        }
        due("the methods of the document and no other: " + found, found.equals(FACE));
        for (Constructor<?> c : face.getDeclaredConstructors()) {
            due("the constructor", c.getParameterCount() == 0 && c.getModifiers() == Modifier.PUBLIC);
        }
        for (Field f : face.getDeclaredFields()) {
            due(f + " is private", f.getName().equals("NONE") || Modifier.isPrivate(f.getModifiers()));
        }
        due("classes inside", face.getDeclaredClasses().length <= 11);
        for (Class<?> inside : face.getDeclaredClasses()) {
            due(inside + " is static", Modifier.isStatic(inside.getModifiers()));
            due(inside + " is not public", (inside.getModifiers() & (Modifier.PUBLIC | Modifier.PROTECTED)) == 0);
            due(inside + " has few fields", fieldsOf(inside) <= 20);
            for (Method m : inside.getDeclaredMethods()) {
                due(m + " has a name of its own", !names.contains(m.getName()));
                due(m + " takes few parameters", m.getParameterCount() <= 7);
            }
        }
    }

    private static int fieldsOf(Class<?> c) {
        int many = 0;
        for (Field f : c.getDeclaredFields()) {
            many += Modifier.isStatic(f.getModifiers()) ? 0 : 1;
            due(f + " is final if it is static",
                !Modifier.isStatic(f.getModifiers()) || Modifier.isFinal(f.getModifiers()));
        }
        return many;
    }

    private static void text() throws IOException {
        String source = Files.readString(Path.of("src/main/java/GiantHeart.java"), StandardCharsets.UTF_8);
        for (int i = 0; i < source.length(); i++) {
            if (source.charAt(i) > 126) {
                due("a sign above 126 at " + i, false);
            }
        }
        String code = source.replaceAll("(?s)/\\*.*?\\*/", " ").replaceAll("//[^\n]*", " ")
            .replaceAll("\"[^\"\n]*\"", "\"\"").replaceAll("'[^'\n]'", "' '");
        Matcher no = Pattern.compile("\\b(import|package|throw|throws|try|catch|finally|synchronized|assert|interface"
            + "|yield|var|native|volatile|transient|instanceof|float|double|Object|toString|hashCode|Thread|Random)\\b"
            + "|->|::|@").matcher(code);
        while (no.find()) {
            due("no " + no.group(), false);
        }
        due("there is a text", code.contains("public final class GiantHeart {"));
        Matcher called = Pattern.compile("\\b([A-Z]\\w*)\\.(\\w+)\\(").matcher(code);
        Set<String> library = Set.of("System.arraycopy", "Math.min", "Math.max", "Integer.bitCount", "Seeker.highest",
            "LETTERS.indexOf");
        while (called.find()) {
            due(called.group() + " is known", library.contains(called.group(1) + "." + called.group(2)));
        }
        int opened = -1;
        String[] lines = source.split("\n");
        for (int i = 0; i < lines.length; i++) {
            due("line " + (i + 1) + " is short", lines[i].length() <= 120);
            if (lines[i].matches(" {4}(    )?\\S.*\\) \\{")) {
                opened = i;
            }
            if (lines[i].matches(" {4}(    )?\\}") && opened >= 0) {
                due("the method at line " + (opened + 1) + " is short", i - opened <= 60);
                opened = -1;
            }
        }
    }

    public static void main(String[] args) throws IOException {
        face();
        text();
        Check.end("LanguageTest");
    }
}
