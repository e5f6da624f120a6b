import java.lang.reflect.Constructor;
import java.lang.reflect.Field;
import java.lang.reflect.Method;
import java.lang.reflect.Modifier;
import java.nio.file.Files;
import java.nio.file.Path;
import java.util.HashSet;
import java.util.List;
import java.util.Set;
import java.util.TreeSet;
import java.util.regex.Matcher;
import java.util.regex.Pattern;

/** The public face, and the rules of LANGUAGE.md that can be seen from outside or by a plain search. */
public final class FaceTest {
    private static final String METHODS = "feed(int,int,int,int,int)int end(int)boolean shore()int fault(int)int has(int)int "
            + "letter(int,int,int)int thing(int,int)int wish(int,int)int say(int)int night()int days(int)int undo()boolean "
            + "seed(int)boolean kept(int,int)int row()int went(int)int ladder(int)int fewest(int,int)int most(int,int)int "
            + "ends(int)int falls()int bears(int)int stop()int value(int)long rivals(int,int)int before(int)int image()int "
            + "octet(int)int on()boolean status(int)int";

    public static void main(String[] args) throws Exception {
        Checks checks = new Checks();
        face(checks);
        source(checks);
        checks.end();
    }

    private static String signature(Method method) {
        StringBuilder text = new StringBuilder(method.getName()).append('(');
        for (Class<?> type : method.getParameterTypes()) {
            text.append(text.charAt(text.length() - 1) == '(' ? "" : ",").append(type.getName());
        }
        return text.append(')').append(method.getReturnType().getName()).toString();
    }

    private static void face(Checks checks) throws Exception {
        Set<String> want = new TreeSet<>(List.of(METHODS.split(" ")));
        Set<String> got = new TreeSet<>();
        Set<String> publicNames = new HashSet<>();
        for (Method method : WishSea.class.getDeclaredMethods()) {
            if (Modifier.isPublic(method.getModifiers())) {
                got.add(signature(method));
                publicNames.add(method.getName());
            }
        }
        checks.due("methods missing or too many: " + want + got, want.equals(got), true);
        checks.due("public and final", Modifier.isFinal(WishSea.class.getModifiers()), true);
        for (Method method : WishSea.class.getDeclaredMethods()) {
            int flags = method.getModifiers();
            boolean fine = Modifier.isPublic(flags) || Modifier.isPrivate(flags) && !publicNames.contains(method.getName());
            checks.due("face: " + method, fine || method.isSynthetic(), true);
        }
        for (Class<?> inner : WishSea.class.getDeclaredClasses()) {
            checks.due("static: " + inner, Modifier.isStatic(inner.getModifiers()), true);
            for (Method method : inner.getDeclaredMethods()) {
                checks.due("name of a public one: " + method, publicNames.contains(method.getName()), false);
            }
            checks.due("fields of " + inner, countFields(inner) <= 20, true);
        }
        checks.due("fields", countFields(WishSea.class) <= 20, true);
        for (Field field : WishSea.class.getDeclaredFields()) {
            boolean constant = field.getName().equals("NONE") || field.getName().equals("NOTHING");
            checks.due("face: " + field, Modifier.isPublic(field.getModifiers()), constant);
            checks.due("face: " + field, Modifier.isPrivate(field.getModifiers()), !constant);
        }
        Constructor<?>[] made = WishSea.class.getDeclaredConstructors();
        checks.due("constructors", made.length, 1);
        checks.due("constructor", Modifier.isPublic(made[0].getModifiers()) && made[0].getParameterCount() == 0, true);
        checks.due("NONE", WishSea.NONE, -1);
        checks.due("NOTHING", WishSea.NOTHING, -1000000000);
    }

    private static int countFields(Class<?> type) {
        int count = 0;
        for (Field field : type.getDeclaredFields()) {
            count += Modifier.isStatic(field.getModifiers()) ? 0 : 1;
        }
        return count;
    }

    private static void source(Checks checks) throws Exception {
        String text = Files.readString(Path.of("src/main/java/WishSea.java"));
        String code = text.replaceAll("(?s)/\\*.*?\\*/", "").replaceAll("//[^\n]*", "").replaceAll("\"[^\"\n]*\"", "\"\"");
        Matcher ruledOut = Pattern.compile("\\b(throw|throws|try|catch|synchronized|assert|instanceof|double|float|System|Random|"
                + "Object|hashCode|toString|Exact)\\b|->|::|Exact\\(|\"\\s*\\+|\\+\\s*\"").matcher(code);
        while (ruledOut.find()) {
            checks.due("ruled out: " + ruledOut.group(), true, false);
        }
        checks.due("imports", code.replaceAll("import java\\.util\\.Arrays;", "").contains("import"), false);
        methodLengths(checks, text);
    }

    private static void methodLengths(Checks checks, String text) {
        String[] lines = text.split("\n");
        int from = 0;
        for (int i = 0; i < lines.length; i++) {
            if (lines[i].matches("    (    )?[a-z].*\\) \\{")) {
                from = i;
            } else if (lines[i].matches("    (    )?\\}")) {
                checks.due("lines up to " + (i + 1), i - from + 1 <= 60 || lines[from].contains("class"), true);
                from = i;
            }
        }
    }
}
