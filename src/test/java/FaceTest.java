import java.lang.reflect.Constructor;
import java.lang.reflect.Field;
import java.lang.reflect.InvocationTargetException;
import java.lang.reflect.Method;
import java.lang.reflect.Modifier;
import java.nio.file.Files;
import java.nio.file.Path;
import java.util.Arrays;
import java.util.List;
import java.util.Map;
import java.util.Random;
import java.util.TreeMap;
import java.util.TreeSet;
import java.util.stream.Collectors;
import java.util.stream.Stream;

/** The face is the document's and no more, and no call throws anything but what its line there names. */
public final class FaceTest {
    private static final Path DOCUMENT = Path.of("../shared/DOC.md");
    private static final Checks c = new Checks();

    public static void main(String[] args) throws Exception {
        Map<String, String> due = new TreeMap<>();
        List<String> lines = Files.readAllLines(DOCUMENT);
        int from = lines.indexOf("public final class HutLedger {");
        for (String line : lines.subList(from + 1, lines.indexOf("}"))) {
            String told = line.strip().replaceAll("(int|boolean|long) \\w+(?=[,)])", "$1");
            due.put(told, told);
        }
        c.begin("the face");
        c.same("members", String.join("\n", due.keySet()), String.join("\n", new TreeSet<>(members())));
        c.same("modifiers", "public final", Modifier.toString(HutLedger.class.getModifiers()));
        c.begin("wild calls");
        for (long seed = 1; seed <= 300; seed++) {
            wildRun(new Random(seed));
        }
        c.end("FaceTest");
    }

    private static List<String> members() throws IllegalAccessException {
        Stream.Builder<String> members = Stream.builder();
        for (Field field : HutLedger.class.getDeclaredFields()) {
            if (!Modifier.isPrivate(field.getModifiers())) {
                members.add(Modifier.toString(field.getModifiers()) + " int " + field.getName() + " = "
                        + field.getInt(null) + ";");
            }
        }
        for (Constructor<?> constructor : HutLedger.class.getDeclaredConstructors()) {
            members.add(Modifier.toString(constructor.getModifiers()) + " HutLedger();");
        }
        for (Method method : HutLedger.class.getDeclaredMethods()) {
            if (!Modifier.isPrivate(method.getModifiers())) {
                members.add(line(method));
            }
        }
        return members.build().toList();
    }

    private static String names(Class<?>[] types) {
        return Arrays.stream(types).map(Class::getSimpleName).collect(Collectors.joining(", "));
    }

    private static String line(Method method) {
        String thrown = names(method.getExceptionTypes());
        return Modifier.toString(method.getModifiers()) + " " + method.getReturnType() + " " + method.getName() + "("
                + names(method.getParameterTypes()) + ")" + (thrown.isEmpty() ? "" : " throws " + thrown) + ";";
    }

    private static void wildRun(Random random) throws IllegalAccessException {
        HutLedger ledger = new HutLedger();
        Method[] methods = HutLedger.class.getDeclaredMethods();
        for (int calls = 0; calls < 512; calls++) {
            Method method = methods[random.nextInt(methods.length)];
            if (!Modifier.isPublic(method.getModifiers())) {
                continue;
            }
            Object[] arguments = new Object[method.getParameterCount()];
            for (int i = 0; i < arguments.length; i++) {
                arguments[i] = wildNumber(random);
            }
            wildCall(ledger, method, arguments);
        }
        c.same("auditDifference", 0, ledger.auditDifference());
    }

    private static int wildNumber(Random random) {
        return switch (random.nextInt(6)) {
            case 0 -> random.nextInt();
            case 1 -> Integer.MIN_VALUE + random.nextInt(2);
            case 2 -> Integer.MAX_VALUE - random.nextInt(2);
            case 3 -> random.nextInt(120) - 10;
            default -> random.nextInt(8) - 1;
        };
    }

    private static void wildCall(HutLedger ledger, Method method, Object[] arguments) throws IllegalAccessException {
        try {
            method.invoke(ledger, arguments);
        } catch (InvocationTargetException thrown) {
            Class<?> kind = thrown.getCause().getClass();
            String call = method.getName() + Arrays.toString(arguments);
            boolean isNamed = Arrays.asList(method.getExceptionTypes()).contains(kind);
            c.same(call, "an exception of its line", isNamed ? "an exception of its line" : kind.getName());
        }
    }
}
