import java.nio.file.Files;
import java.nio.file.Path;
import java.util.Arrays;
import java.util.regex.Matcher;
import java.util.regex.Pattern;

/** The answers that README.md tells are those that the class gives. */
public final class ReadmeTest {
    private static final Pattern CALL = Pattern.compile("(?m)^hut\\.(\\w+)\\(([0-9, ]*)\\); +// (-?[0-9]+):");
    private static final Checks c = new Checks();

    public static void main(String[] args) throws Exception {
        String readme = Files.readString(Path.of("README.md"));
        c.begin("the example of README.md");
        HutLedger hut = new HutLedger();
        Matcher call = CALL.matcher(readme);
        int calls = 0;
        while (call.find()) {
            c.same(call.group(), Integer.parseInt(call.group(3)), answer(hut, call.group(1), call.group(2)));
            calls++;
        }
        c.same("calls with an answer", readme.lines().filter(line -> line.startsWith("hut.")).count(), calls);
        theLedgerThatIsQuoted(readme);
        theTexts(readme);
        c.end("ReadmeTest");
    }

    private static int answer(HutLedger hut, String name, String told) throws ReflectiveOperationException {
        String[] numbers = told.isEmpty() ? new String[0] : told.split(", ");
        Object[] arguments = new Object[numbers.length];
        Class<?>[] types = new Class<?>[numbers.length];
        for (int i = 0; i < numbers.length; i++) {
            arguments[i] = Integer.valueOf(numbers[i]);
        }
        Arrays.fill(types, int.class);
        return (Integer) HutLedger.class.getMethod(name, types).invoke(hut, arguments);
    }

    private static void theLedgerThatIsQuoted(String readme) {
        HutLedger hut = new HutLedger();
        hut.setRate(2);
        hut.takeBlanket(2, 1);
        hut.lieDown(0, 2);
        hut.passHours(8);
        told(readme, '"' + Checks.ledger(hut) + '"');
    }

    private static void theTexts(String readme) {
        HutLedger hut = new HutLedger();
        type(hut, told(readme, "hut 10; bunks 0 2; blankets 4; forecast 5; hiker 5 0 20;"));
        c.same("loadSetup()", 1, hut.loadSetup());
        type(hut, told(readme, "burn 1; lie 0 1; pass 3;"));
        c.same("runScript()", 3, hut.runScript());
        type(hut, told(readme, "hut 100;"));
        c.same("loadSetup()", -1, hut.loadSetup());
        c.same("errorCode()", 2, hut.errorCode());
        c.same("errorPosition()", 4, hut.errorPosition());
    }

    private static String told(String readme, String text) {
        c.same("README.md holds " + text, 1, readme.contains(text) ? 1 : 0);
        return text;
    }

    // As README.md tells it.
    private static void type(HutLedger hut, String text) {
        for (int i = 0; i < text.length(); i += 4) {
            int four = 0;
            for (int j = i; j < i + 4; j++) {
                four = four << 8 | (j < text.length() ? text.charAt(j) : ' ');
            }
            hut.appendText(four);
        }
        hut.truncateText(text.length());
    }
}
