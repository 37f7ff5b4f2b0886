import java.lang.reflect.Field;
import java.lang.reflect.Method;
import java.lang.reflect.Modifier;
import java.nio.file.Files;
import java.nio.file.Path;
import java.util.ArrayList;
import java.util.List;
import java.util.Set;
import java.util.TreeSet;
import java.util.regex.Matcher;
import java.util.regex.Pattern;

/** Those rules of LANGUAGE.md that a look at the class and at its text can hold; the rest wants a reader. */
public final class LanguageTest {
    private static final Path PROGRAM = Path.of("src/main/java/HutLedger.java");
    private static final Checks c = new Checks();

    private static final List<String> FORBIDDEN = List.of("->", "::", "\\bcatch\\b", "\\bfinally\\b", "\\bsynchronized\\b",
            "\\bassert\\b", "Exact\\b", "\\binstanceof\\b", "\\bSystem\\.(?!arraycopy)", "\\bString\\.", "\\bRandom\\b",
            "\\bThread\\b", "\"\\s*\\+|\\+\\s*\"", "\\bprotected\\b", "\\btoString\\b", "\\bhashCode\\b", "\\bObject\\b");

    public static void main(String[] args) throws Exception {
        String text = Files.readString(PROGRAM);
        c.begin("the text");
        for (String pattern : FORBIDDEN) {
            Matcher found = Pattern.compile(pattern).matcher(text);
            c.same(pattern, "nothing", found.find() ? text.substring(found.start(), found.start() + 20) : "nothing");
        }
        c.same("imports", 1, text.lines().filter(line -> line.startsWith("import")).count());
        c.same("no package", 0, text.lines().filter(line -> line.startsWith("package")).count());
        c.same("a method of more than 60 lines", 0, longMethods(text));
        c.begin("the classes");
        List<Class<?>> classes = new ArrayList<>(List.of(HutLedger.class.getDeclaredClasses()));
        c.same("more than 12", 0, Math.max(0, classes.size() + 1 - 12));
        for (Class<?> inside : classes) {
            boolean isPrivate = Modifier.isPrivate(inside.getModifiers()) && Modifier.isStatic(inside.getModifiers());
            c.same("private and static " + inside, 1, isPrivate ? 1 : 0);
        }
        classes.add(HutLedger.class);
        for (Class<?> one : classes) {
            membersOf(one);
        }
        c.end("LanguageTest");
    }

    private static int longMethods(String text) {
        int longOnes = 0;
        int since = 0;
        for (String line : text.split("\n")) {
            since = line.matches("( {4}| {8})[a-zA-Z].*\\{") ? 0 : since + 1;
            longOnes += line.matches("( {4}| {8})\\}") && since > 60 && !line.startsWith("    }") ? 1 : 0;
        }
        return longOnes;
    }

    private static void membersOf(Class<?> one) {
        int fields = 0;
        for (Field field : one.getDeclaredFields()) {
            boolean isConstant = Modifier.isStatic(field.getModifiers());
            fields += isConstant ? 0 : 1;
            c.same("final " + field, 1, !isConstant || Modifier.isFinal(field.getModifiers()) ? 1 : 0);
        }
        c.same("more than some twenty fields in " + one, 0, Math.max(0, fields - 21));
        Set<String> face = new TreeSet<>();
        for (Method method : HutLedger.class.getDeclaredMethods()) {
            if (Modifier.isPublic(method.getModifiers())) {
                face.add(method.getName());
            }
        }
        for (Method method : one.getDeclaredMethods()) {
            boolean isFace = one == HutLedger.class && Modifier.isPublic(method.getModifiers());
            c.same("a name of the face " + method, 0, !isFace && face.contains(method.getName()) ? 1 : 0);
            c.same("more than seven parameters " + method, 0, Math.max(0, method.getParameterCount() - 7));
        }
    }
}
