import java.lang.reflect.InvocationTargetException;
import java.lang.reflect.Method;
import java.util.ArrayList;
import java.util.Comparator;
import java.util.List;
import java.util.Random;

/** Long runs of calls, the same in every session, on HutLedger and on HutModel: all answers must be the same. */
public final class RandomRunsTest {
    private static final int CALLS = 512;
    private static final List<String> ACTIONS = List.of("takeBlanket", "returnBlanket", "swapBlankets",
            "lieDown", "lieDown", "lieDown", "getUp", "setRate", "setRate", "fetchLogs", "payDebt", "passHours",
            "passHours", "takeBlanket", "takeBlanket", "undo", "saveSnapshot", "restoreSnapshot");

    private final Random random;
    private final boolean isCrowded;
    private final HutLedger ledger = new HutLedger();
    private final HutModel model = new HutModel();
    private final List<String> told = new ArrayList<>();
    private int calls = 0;

    private RandomRunsTest(long seed) {
        random = new Random(seed);
        // Calls with any numbers seldom fill a hut: half of the runs ask for what there is, in full huts.
        isCrowded = seed % 2 == 0;
    }

    public static void main(String[] args) throws ReflectiveOperationException {
        int runs = args.length > 0 ? Integer.parseInt(args[0]) : 150;
        for (long seed = 1; seed <= runs; seed++) {
            new RandomRunsTest(seed).run(seed);
        }
        System.out.println("RandomRunsTest: " + runs + " runs as due");
    }

    private static List<Method> face() {
        List<Method> face = new ArrayList<>();
        for (Method method : HutLedger.class.getDeclaredMethods()) {
            if (java.lang.reflect.Modifier.isPublic(method.getModifiers())) {
                face.add(method);
            }
        }
        face.sort(Comparator.comparing(Method::getName));
        return face;
    }

    private void run(long seed) throws ReflectiveOperationException {
        List<Method> face = face();
        if (seed % 3 != 0) {
            loadAny();
        }
        if (seed % 5 == 0) {
            comeToTheLastHours();
        }
        while (calls < CALLS) {
            int dice = random.nextInt(100);
            if (dice < 2) {
                loadAny();
            } else if (dice < 4) {
                runText(script());
            } else if (dice < 45) {
                callSome(find(face, ACTIONS.get(random.nextInt(ACTIONS.size()))));
            } else {
                callSome(face.get(random.nextInt(face.size())));
            }
        }
    }

    private void comeToTheLastHours() throws ReflectiveOperationException {
        while (model.hour() < 9900) {
            call("passHours", 48);
        }
        call("setRate", upTo(3));
        call("saveSnapshot", 0);
    }

    private static Method find(List<Method> face, String name) {
        return face.stream().filter(method -> method.getName().equals(name)).findFirst().orElseThrow();
    }

    private void callSome(Method method) throws ReflectiveOperationException {
        Object[] arguments = new Object[method.getParameterCount()];
        for (int i = 0; i < arguments.length; i++) {
            arguments[i] = argument(method.getName(), i);
        }
        if (!method.getName().equals("truncateText") && !method.getName().equals("appendText")
                || random.nextInt(10) == 0) {
            call(method.getName(), arguments);
        }
    }

    private int argument(String name, int place) {
        int dice = random.nextInt(40);
        if (dice == 0) {
            return List.of(-1, Integer.MIN_VALUE, Integer.MAX_VALUE, 100, 97, 96, 12, 500).get(random.nextInt(8));
        }
        if (isCrowded && name.equals("payDebt") && place == 0) {
            return somebodyWhoCanPay();
        }
        int count = isCrowded ? countOfThings(name, place) : 0;
        if (count > 0) {
            return random.nextInt(count);
        }
        return switch (name) {
            case "temperatureAfter", "debtAfter" -> random.nextInt(dice < 20 ? 10 : 98);
            case "passHours" -> random.nextInt(dice < 30 ? 9 : 50);
            case "fetchLogs" -> random.nextInt(dice < 30 ? 20 : 52);
            case "payDebt" -> random.nextInt(dice < 30 ? 5 : 101);
            case "setRate" -> random.nextInt(dice < 5 ? 5 : 4);
            case "saveSnapshot", "restoreSnapshot" -> random.nextInt(dice < 5 ? 3 : 2);
            case "hoursOf" -> random.nextInt(5);
            case "outputByte" -> random.nextInt(60) - 1;
            default -> random.nextInt(dice < 25 ? 5 : 13);
        };
    }

    /** How many hikers, bunks, blankets or ranks there are for an argument; 0 if it is none of these. */
    private int countOfThings(String name, int place) {
        int hikers = model.s.hikers.size();
        int bunks = model.s.heights.size();
        int blankets = model.s.blankets.size();
        return switch (name) {
            case "hikerIn", "noiseIn" -> bunks;
            case "userOf" -> blankets;
            case "blanketOnPile" -> model.pileSize();
            case "takeBlanket" -> place == 0 ? hikers : blankets;
            case "lieDown" -> place == 0 ? hikers : bunks;
            case "hoursOf", "debtAfter" -> place == 0 ? hikers : 0;
            case "bestPlaceFor", "fittingBlanket", "bunkOf", "blanketOf", "warmth", "activity", "coinsOf", "debtOf",
                    "hikerAtRank", "warmestBunk", "shiversUntilDawn", "paymentAtDawn", "dawnsUntilDebt",
                    "returnBlanket", "swapBlankets", "getUp" -> hikers;
            default -> 0;
        };
    }

    private int somebodyWhoCanPay() {
        int hikers = model.s.hikers.size();
        int first = random.nextInt(hikers);
        for (int i = 0; i < hikers; i++) {
            int hiker = (first + i) % hikers;
            if (model.debtOf(hiker) > 0 && model.coinsOf(hiker) > 0) {
                return hiker;
            }
        }
        return first;
    }

    private void call(String name, Object... arguments) throws ReflectiveOperationException {
        calls++;
        Object due = answer(model, name, arguments);
        Object got = answer(ledger, name, arguments);
        told.add(name + List.of(arguments) + " = " + due);
        if (!due.equals(got)) {
            told.forEach(System.out::println);
            System.out.println("RandomRunsTest: the last call answered " + got);
            System.exit(1);
        }
    }

    private static Object answer(Object object, String name, Object... arguments) throws ReflectiveOperationException {
        Class<?>[] types = new Class<?>[arguments.length];
        java.util.Arrays.fill(types, int.class);
        Method method = object.getClass().getDeclaredMethod(name, types);
        try {
            Object answer = method.invoke(object, arguments);
            return answer == null ? "void" : answer;
        } catch (InvocationTargetException thrown) {
            return thrown.getCause().getClass().getName();
        }
    }

    // ---- texts

    private void loadAny() throws ReflectiveOperationException {
        if (isCrowded) {
            load(crowdedSetup());
            runText(beddingScript());
        } else {
            load(setup());
        }
    }

    private void load(String text) throws ReflectiveOperationException {
        type(text);
        call("loadSetup");
        call("errorCode");
        call("errorPosition");
    }

    private void runText(String text) throws ReflectiveOperationException {
        type(text);
        call("runScript");
        call("errorCode");
        call("errorPosition");
        call("writeLedger");
    }

    private void type(String text) throws ReflectiveOperationException {
        String typed = random.nextInt(4) == 0 ? spoilt(text) : text;
        typed = typed.length() > 500 ? typed.substring(0, 500) : typed;
        call("truncateText", 0);
        for (int i = 0; i < typed.length(); i += 4) {
            int four = 0;
            for (int j = i; j < i + 4; j++) {
                four = four << 8 | (j < typed.length() ? typed.charAt(j) : 0);
            }
            // Not counted as calls of the run: they would leave no room for others.
            calls--;
            call("appendText", four);
        }
        call("truncateText", typed.length());
    }

    private String spoilt(String text) {
        int at = random.nextInt(text.length() + 1);
        String[] bits = {"", " ", "\n", ";", "x", "hiker", " 7", "0", "99", " 1000000000000", "A", "\0", "\t", "-",
            "\u00e9", "take", " hut ", "bunks", "; ;", "pass 48;"};
        String bit = bits[random.nextInt(bits.length)];
        return text.substring(0, at) + bit + text.substring(Math.min(text.length(), at + random.nextInt(3)));
    }

    private int upTo(int most) {
        return random.nextInt(most + 1);
    }

    private void row(StringBuilder text, int least, int most, int low, int high) {
        int count = least + upTo(most - least);
        for (int i = 0; i < count; i++) {
            text.append(' ').append(low + upTo(high - low));
        }
        text.append(';');
    }

    private String setup() {
        boolean isTooLong = random.nextInt(8) == 0;
        int few = random.nextInt(3) == 0 ? 4 : 12;
        StringBuilder text = new StringBuilder("hut ").append(upTo(99)).append(";bunks");
        row(text, 1, isTooLong ? 13 : few, 0, random.nextInt(20) == 0 ? 6 : 5);
        text.append(" blankets");
        row(text, 0, isTooLong ? 13 : few, 1, 9);
        text.append("\nforecast");
        row(text, 1, isTooLong ? 13 : few, 0, random.nextBoolean() ? 20 : 8);
        int hikers = 1 + upTo(isTooLong ? 10 : Math.min(few, 9));
        for (int i = 0; i < hikers; i++) {
            text.append("\nhiker ").append(1 + upTo(random.nextBoolean() ? 29 : 14));
            text.append(' ').append(upTo(9)).append(' ').append(upTo(random.nextBoolean() ? 99 : 20)).append(';');
        }
        return text.toString();
    }

    /** Many hikers who need little warmth, snore much and are mostly poor, and about as many bunks. */
    private String crowdedSetup() {
        int hikers = 5 + upTo(5);
        StringBuilder text = new StringBuilder("hut ").append(upTo(99)).append("; bunks");
        row(text, hikers - 2, 12, 0, random.nextBoolean() ? 1 : 5);
        text.append(" blankets");
        row(text, 0, hikers, 1, 9);
        text.append(" forecast");
        row(text, 1, 12, random.nextBoolean() ? 4 : 0, 12);
        int need = 6 + upTo(12);
        for (int i = 0; i < hikers; i++) {
            text.append(" hiker ").append(Math.min(30, need + upTo(6))).append(' ').append(upTo(9));
            text.append(' ').append(random.nextInt(3) == 0 ? 20 + upTo(79) : upTo(4)).append(';');
        }
        return text.toString();
    }

    private String beddingScript() {
        StringBuilder text = new StringBuilder("burn ").append(upTo(3)).append(';');
        int bunks = model.s.heights.size();
        int first = upTo(bunks - 1);
        for (int i = 0; i < model.s.hikers.size() && i < bunks; i++) {
            if (random.nextInt(6) > 0) {
                text.append("lie ").append(i).append(' ').append((first + i) % bunks).append(';');
            }
            if (i < model.s.blankets.size() && random.nextBoolean()) {
                text.append("take ").append(i).append(' ').append(i).append(';');
            }
        }
        return text.append("pass ").append(1 + upTo(20)).append(';').toString();
    }

    private String script() {
        StringBuilder text = new StringBuilder();
        int commands = upTo(random.nextInt(6) == 0 ? 32 : 8);
        for (int i = 0; i < commands; i++) {
            text.append(command()).append(random.nextBoolean() ? ";" : " ; ");
        }
        return text.toString();
    }

    private String command() {
        int hiker = upTo(4);
        return switch (random.nextInt(9)) {
            case 0 -> "take " + hiker + " " + upTo(4);
            case 1 -> "return " + hiker;
            case 2 -> "swap " + hiker + " " + upTo(9);
            case 3 -> "lie " + hiker + " " + upTo(11);
            case 4 -> "rise " + hiker;
            case 5 -> "burn " + upTo(3);
            case 6 -> "fetch " + (1 + upTo(20));
            case 7 -> "pay " + hiker + " " + (1 + upTo(3));
            default -> "pass " + (1 + upTo(random.nextBoolean() ? 8 : 47));
        };
    }
}
