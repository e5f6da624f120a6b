import java.lang.reflect.Constructor;
import java.lang.reflect.Field;
import java.lang.reflect.Method;
import java.lang.reflect.Modifier;
import java.nio.file.Files;
import java.nio.file.Path;
import java.util.HashSet;
import java.util.Set;
import java.util.TreeSet;
import java.util.regex.Matcher;
import java.util.regex.Pattern;

/** The public face, and the rules of LANGUAGE.md that can be seen from outside or by a plain search. */
public final class FaceTest {
    public static void main(String[] args) throws Exception {
        Checks checks = new Checks();
        face(checks);
        members(checks);
        source(checks);
        checks.end();
    }

    private static String signature(Method method) {
        StringBuilder text = new StringBuilder(method.getName()).append('(');
        for (Class<?> type : method.getParameterTypes()) {
            text.append(text.charAt(text.length() - 1) == '(' ? "" : ",").append(type.getName());
        }
        return text.append(')').append(method.getReturnType().getName()).toString();
    }

    /** The methods that the document's face has, in the words of signature(). */
    private static Set<String> documentsMethods() {
        String face = Document.SOURCE.substring(Document.SOURCE.indexOf("```java"), Document.SOURCE.indexOf("## Terms"));
        Set<String> methods = new TreeSet<>();
        Matcher method = Pattern.compile("public (\\w+) (\\w+)\\((.*)\\);").matcher(face);
        while (method.find()) {
            methods.add(method.group(2) + "(" + method.group(3).replaceAll("(\\w+) \\w+(, )?", "$1,").replaceAll(",$", "") + ")"
                    + method.group(1));
        }
        return methods;
    }

    private static void face(Checks checks) {
        checks.says("## The public face");
        Set<String> want = documentsMethods();
        Set<String> got = new TreeSet<>();
        for (Method method : WishSea.class.getDeclaredMethods()) {
            if (Modifier.isPublic(method.getModifiers())) {
                got.add(signature(method));
            }
        }
        checks.due("methods of the document", want.size(), 30);
        checks.due("methods missing or too many: " + want + got, want.equals(got), true);
        checks.says("public final class WishSea {");
        checks.due("public and final", Modifier.isPublic(WishSea.class.getModifiers()) && Modifier.isFinal(WishSea.class.getModifiers()), true);
        checks.says("public WishSea();");
        Constructor<?>[] made = WishSea.class.getDeclaredConstructors();
        checks.due("constructors", made.length, 1);
        checks.due("constructor", Modifier.isPublic(made[0].getModifiers()) && made[0].getParameterCount() == 0, true);
        checks.says("`NONE = -1`: None; refused.");
        checks.due("NONE", WishSea.NONE, -1);
        checks.says("`NOTHING = -1000000000`: Told where -1 may be a number.");
        checks.due("NOTHING", WishSea.NOTHING, -1000000000);
    }

    private static void members(Checks checks) {
        checks.about("LANGUAGE.md, rule 1");
        Set<String> publicNames = new HashSet<>();
        for (Method method : WishSea.class.getDeclaredMethods()) {
            if (Modifier.isPublic(method.getModifiers())) {
                publicNames.add(method.getName());
            }
        }
        for (Method method : WishSea.class.getDeclaredMethods()) {
            int flags = method.getModifiers();
            boolean fine = Modifier.isPublic(flags) || Modifier.isPrivate(flags) && !publicNames.contains(method.getName());
            checks.due("face: " + method, fine || method.isSynthetic(), true);
        }
        for (Field field : WishSea.class.getDeclaredFields()) {
            boolean constant = field.getName().equals("NONE") || field.getName().equals("NOTHING");
            checks.due("face: " + field, Modifier.isPublic(field.getModifiers()), constant);
            checks.due("face: " + field, Modifier.isPrivate(field.getModifiers()), !constant);
        }
        for (Class<?> inner : WishSea.class.getDeclaredClasses()) {
            for (Method method : inner.getDeclaredMethods()) {
                checks.due("name of a public one: " + method, publicNames.contains(method.getName()), false);
            }
        }
        checks.about("LANGUAGE.md, rule 2");
        for (Class<?> inner : WishSea.class.getDeclaredClasses()) {
            checks.due("static: " + inner, Modifier.isStatic(inner.getModifiers()), true);
        }
        checks.about("LANGUAGE.md, rule 11");
        checks.due("classes", WishSea.class.getDeclaredClasses().length < 12, true);
        checks.due("fields", countFields(WishSea.class) <= 20, true);
        for (Class<?> inner : WishSea.class.getDeclaredClasses()) {
            checks.due("fields of " + inner, countFields(inner) <= 20, true);
        }
    }

    private static int countFields(Class<?> type) {
        int count = 0;
        for (Field field : type.getDeclaredFields()) {
            count += Modifier.isStatic(field.getModifiers()) ? 0 : 1;
        }
        return count;
    }

    private static void source(Checks checks) throws Exception {
        String text = Files.readString(Path.of("src/main/java/WishSea.java"));
        String code = text.replaceAll("(?s)/\\*.*?\\*/", "").replaceAll("//[^\n]*", "").replaceAll("\"[^\"\n]*\"", "\"\"");
        Matcher ruledOut = Pattern.compile("\\b(throw|throws|try|catch|synchronized|assert|instanceof|double|float|System|Random|"
                + "Object|hashCode|toString|Exact)\\b|->|::|Exact\\(|\"\\s*\\+|\\+\\s*\"").matcher(code);
        checks.about("LANGUAGE.md, rule 6");
        String found = "";
        while (ruledOut.find()) {
            found += " " + ruledOut.group();
        }
        checks.due("ruled out:" + found, found.isEmpty(), true);
        checks.about("LANGUAGE.md, rule 4");
        checks.due("imports", code.replaceAll("import java\\.util\\.Arrays;", "").contains("import"), false);
        checks.about("LANGUAGE.md, rule 11");
        methodLengths(checks, text);
    }

    private static void methodLengths(Checks checks, String text) {
        String[] lines = text.split("\n");
        int from = 0;
        for (int i = 0; i < lines.length; i++) {
            if (lines[i].matches("    (    )?[a-z].*\\) \\{")) {
                from = i;
            } else if (lines[i].matches("    (    )?\\}")) {
                checks.due("lines up to " + (i + 1), i - from + 1 <= 60 || lines[from].contains("class"), true);
                from = i;
            }
        }
    }
}
