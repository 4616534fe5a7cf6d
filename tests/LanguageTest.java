import java.io.IOException;
import java.lang.reflect.Constructor;
import java.lang.reflect.Field;
import java.lang.reflect.Method;
import java.lang.reflect.Modifier;
import java.nio.file.Files;
import java.nio.file.Path;
import java.util.List;
import java.util.Set;
import java.util.TreeSet;
import java.util.regex.Matcher;
import java.util.regex.Pattern;

/** Those rules of LANGUAGE.md that can be seen from the class and its text without thought. */
final class LanguageTest {
    private static final Due DUE = new Due();
    private static final Set<String> FACE = new TreeSet<>(List.of("feed", "back", "read", "place", "log", "field",
            "notch", "step", "drain", "spring", "days", "undo", "river", "round", "lacking", "dry", "feels", "unfelt",
            "best", "tempted", "mend", "feeds", "hangs", "spread", "richest", "crop", "again", "swap", "grownIn",
            "wideIn", "year", "tell", "forget", "fits", "ask", "hold", "restore", "count"));
    private static final Set<String> CALLED = new TreeSet<>(List.of("Math.min", "Math.max", "Integer.bitCount",
            "System.arraycopy", "Arrays.fill"));

    public static void main(String[] args) throws IOException {
        String text = Files.readString(Path.of("src/main/java/SluiceLogs.java"));
        String code = text.replaceAll("(?s)/\\*.*?\\*/", "").replaceAll("//.*", "").replaceAll("\"[^\"\n]*\"", "\"\"");
        face();
        classes();
        words(code);
        library(code);
        lengths(code);
        DUE.due("signs above 126", text.chars().filter(sign -> sign > 126).count(), 0);
        DUE.end();
    }

    private static void rule(String name, boolean kept) {
        DUE.due(name, kept, true);
    }

    private static void face() {
        Set<String> seen = new TreeSet<>();
        for (Method method : SluiceLogs.class.getDeclaredMethods()) {
            boolean isPublic = Modifier.isPublic(method.getModifiers());
            rule(method + " is of the face or private", isPublic || Modifier.isPrivate(method.getModifiers()));
            rule(method + " bears no name of the face", isPublic == FACE.contains(method.getName()));
            rule(method + " is not told twice", !isPublic || seen.add(method.getName()));
        }
        DUE.due("methods of the face", seen.size(), FACE.size());
        for (Field field : SluiceLogs.class.getDeclaredFields()) {
            rule(field + " is NONE or private", field.getName().equals("NONE") == Modifier.isPublic(field.getModifiers())
                    && (field.getName().equals("NONE") || Modifier.isPrivate(field.getModifiers())));
        }
        DUE.due("constructors", SluiceLogs.class.getDeclaredConstructors().length, 1);
        DUE.due("public constructors", SluiceLogs.class.getConstructors().length, 1);
        rule("public and final", Modifier.isPublic(SluiceLogs.class.getModifiers()) && Modifier.isFinal(SluiceLogs.class.getModifiers()));
    }

    private static void classes() {
        Class<?>[] inside = SluiceLogs.class.getDeclaredClasses();
        rule("classes", inside.length + 1 <= 12);
        members(SluiceLogs.class);
        for (Class<?> one : inside) {
            rule(one + " is static", Modifier.isStatic(one.getModifiers()));
            rule(one + " is not public", !Modifier.isPublic(one.getModifiers()) && !Modifier.isProtected(one.getModifiers()));
            for (Method method : one.getDeclaredMethods()) {
                rule(method + " bears no name of the face", !FACE.contains(method.getName()));
            }
            members(one);
        }
    }

    private static void members(Class<?> one) {
        int fields = 0;
        for (Field field : one.getDeclaredFields()) {
            boolean isStatic = Modifier.isStatic(field.getModifiers());
            rule(field + " is final", !isStatic || Modifier.isFinal(field.getModifiers()));
            fields += isStatic ? 0 : 1;
        }
        rule(one + " has twenty fields at most", fields <= 20);
        for (Method method : one.getDeclaredMethods()) {
            rule(method + " takes seven at most", method.getParameterCount() <= 7);
            rule(method + " is not of all objects", !Set.of("equals", "hashCode", "toString", "wait").contains(method.getName()));
        }
        for (Constructor<?> constructor : one.getDeclaredConstructors()) {
            rule(constructor + " takes seven at most", constructor.getParameterCount() <= 7);
        }
    }

    private static void words(String code) {
        for (String word : List.of("throw", "throws", "try", "catch", "finally", "synchronized", "assert", "volatile",
                "transient", "native", "strictfp", "package", "protected", "var", "double", "float", "goto", "yield",
                "this", "super", "Exact", "Random", "Thread", "null", "Object", "instanceof")) {
            rule("no " + word, !Pattern.compile("\\b" + word + "\\b").matcher(code).find());
        }
        for (String sign : List.of("->", "::", "@", "for (;;)", "while (true)", "[][][]")) {
            rule("no " + sign, !code.contains(sign));
        }
        rule("no texts joined by +", !Pattern.compile("\"\\s*\\+|\\+\\s*\"").matcher(code).find());
    }

    private static void library(String code) {
        Matcher imports = Pattern.compile("import ([^;]+);").matcher(code);
        while (imports.find()) {
            rule("import " + imports.group(1), imports.group(1).equals("java.util.Arrays"));
        }
        Matcher calls = Pattern.compile("\\b(Math|Integer|Long|System|Arrays|String|Character)\\.(\\w+)").matcher(code);
        while (calls.find()) {
            rule(calls.group(), CALLED.contains(calls.group()));
        }
        rule("Arrays.fill over arrays of numbers alone", !Pattern.compile("Arrays\\.fill\\([^;]*\\b(true|false)\\)").matcher(code).find());
    }

    /** A method begins at a line that ends with ") {" and no word of a loop or an if, and ends at its brace. */
    private static void lengths(String code) {
        String[] lines = code.split("\n");
        for (int at = 0; at < lines.length; at++) {
            Matcher head = Pattern.compile("^( {4}| {8})(?!.*\\b(if|for|while|switch|else|return)\\b)\\S.*\\) \\{$").matcher(lines[at]);
            if (!head.find()) {
                continue;
            }
            int end = at;
            while (!lines[end].equals(head.group(1) + "}")) {
                end++;
            }
            rule("sixty lines at most: " + lines[at].trim(), end - at < 60);
        }
    }
}
