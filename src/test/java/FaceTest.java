import java.io.IOException;
import java.lang.reflect.Constructor;
import java.lang.reflect.Field;
import java.lang.reflect.Method;
import java.lang.reflect.Modifier;
import java.nio.file.Files;
import java.nio.file.Path;
import java.util.ArrayList;
import java.util.List;
import java.util.Set;
import java.util.TreeSet;

/** The face of the class is the document's, and the source keeps to what LANGUAGE.md says of it. */
public final class FaceTest {
    private static final int LONGEST_METHOD = 60;

    public static void main(String[] args) throws IOException {
        face();
        source(Files.readAllLines(Path.of("src/main/java/BarcodeEngine.java")));
        Checks.end("FaceTest");
    }

    /** The lines of the public face, as the document has them, without the names of parameters. */
    private static Set<String> wanted() throws IOException {
        Set<String> wanted = new TreeSet<>();
        for (String line : Files.readAllLines(Path.of("../shared/DOC.md"))) {
            if (line.startsWith("    public ")) {
                wanted.add(line.strip().replaceAll("(int|boolean) \\w+(?=[,)])", "$1"));
            }
        }
        return wanted;
    }

    private static String names(Class<?>[] types) {
        List<String> names = new ArrayList<>();
        for (Class<?> type : types) {
            names.add(type.getSimpleName());
        }
        return String.join(", ", names);
    }

    private static void face() throws IOException {
        Set<String> got = new TreeSet<>();
        Set<String> faceNames = new TreeSet<>();
        for (Constructor<?> c : BarcodeEngine.class.getDeclaredConstructors()) {
            got.add(Modifier.toString(c.getModifiers()) + " BarcodeEngine(" + names(c.getParameterTypes()) + ");");
        }
        for (Field f : BarcodeEngine.class.getDeclaredFields()) {
            if (!Modifier.isPrivate(f.getModifiers())) {
                got.add(Modifier.toString(f.getModifiers()) + " int " + f.getName() + " = " + BarcodeEngine.NONE + ";");
            }
        }
        for (Method m : BarcodeEngine.class.getDeclaredMethods()) {
            if (!Modifier.isPrivate(m.getModifiers())) {
                faceNames.add(m.getName());
                String thrown = names(m.getExceptionTypes());
                got.add(Modifier.toString(m.getModifiers()) + " " + m.getReturnType().getSimpleName() + " "
                    + m.getName() + "(" + names(m.getParameterTypes()) + ")"
                    + (thrown.isEmpty() ? "" : " throws " + thrown) + ";");
            }
        }
        Set<String> want = wanted();
        Checks.due("lines of the face", want.size(), 39);
        Checks.same("the face", String.join("\n", got), String.join("\n", want));
        Checks.same("the class", Modifier.toString(BarcodeEngine.class.getModifiers()), "public final");
        privateNames(faceNames);
    }

    private static void privateNames(Set<String> faceNames) {
        int classes = 1;
        for (Class<?> inner : BarcodeEngine.class.getDeclaredClasses()) {
            classes++;
            Checks.due(inner + " is static", Modifier.isStatic(inner.getModifiers()), true);
            Checks.due(inner + " is not public", Modifier.isPublic(inner.getModifiers()), false);
            Checks.due(inner + " has few fields", inner.getDeclaredFields().length <= 20, true);
            for (Method m : inner.getDeclaredMethods()) {
                Checks.due(m + " has a name of its own", faceNames.contains(m.getName()), false);
                Checks.due(m + " has few parameters", m.getParameterCount() <= 7, true);
            }
        }
        Checks.due("there are few classes", classes <= 12, true);
        for (Method m : BarcodeEngine.class.getDeclaredMethods()) {
            if (Modifier.isPrivate(m.getModifiers())) {
                Checks.due(m + " has a name of its own", faceNames.contains(m.getName()), false);
                Checks.due(m + " has few parameters", m.getParameterCount() <= 7, true);
            }
        }
    }

    private static void source(List<String> lines) {
        int begun = 0;
        for (int i = 0; i < lines.size(); i++) {
            String line = lines.get(i);
            String code = line.strip().startsWith("*") || line.strip().startsWith("/*") ? "" : line.replaceAll("//.*", "");
            String where = "line " + (i + 1);
            for (String sign : new String[] {"->", "::", "@", "try ", "catch", "finally", "assert ", "synchronized",
                "package ", "instanceof", "Exact(", "System.", "static {", " var "}) {
                Checks.due(where + " has no " + sign, code.contains(sign), false);
            }
            Checks.due(where + " imports nothing else", code.startsWith("import ")
                && !code.equals("import java.util.NoSuchElementException;"), false);
            for (char c : line.toCharArray()) {
                Checks.due(where + " is ASCII", c >= 32 && c < 127, true);
            }
            if (code.matches("( {4}| {8})[a-z].*\\).*\\{") || code.matches("( {4}| {8})[a-z].*\\(.*[,)]")) {
                begun = i;
            }
            if (code.equals("    }") || code.equals("        }")) {
                Checks.due(where + " ends a short method", i - begun <= LONGEST_METHOD, true);
            }
        }
    }
}
