import java.util.ArrayList;
import java.util.Comparator;
import java.util.List;
import java.util.NoSuchElementException;
import java.util.function.ToIntFunction;

/**
 * The document once more, written without any thought of speed and apart from HutLedger, so that
 * RandomRunsTest can compare the answers of both. It works everything out anew at each call.
 */
final class HutModel {
    static final class Hiker {
        int need;
        int snore;
        int coins;
        int debt;
        Integer bunk;
        Integer blanket;
        List<Integer> diary = new ArrayList<>();

        Hiker copy() {
            Hiker copy = new Hiker();
            copy.need = need;
            copy.snore = snore;
            copy.coins = coins;
            copy.debt = debt;
            copy.bunk = bunk;
            copy.blanket = blanket;
            copy.diary = new ArrayList<>(diary);
            return copy;
        }

        int times(int activity) {
            return (int) diary.stream().filter(done -> done == activity).count();
        }
    }

    static final class State {
        int hour;
        int logs;
        int heat;
        int rate;
        int hutCoins;
        int burned;
        int unpaidLogs;
        List<Integer> heights = new ArrayList<>();
        List<Integer> blankets = new ArrayList<>();
        List<Integer> forecast = new ArrayList<>();
        List<Hiker> hikers = new ArrayList<>();

        State copy() {
            State copy = new State();
            copy.hour = hour;
            copy.logs = logs;
            copy.heat = heat;
            copy.rate = rate;
            copy.hutCoins = hutCoins;
            copy.burned = burned;
            copy.unpaidLogs = unpaidLogs;
            copy.heights.addAll(heights);
            copy.blankets.addAll(blankets);
            copy.forecast.addAll(forecast);
            hikers.forEach(hiker -> copy.hikers.add(hiker.copy()));
            return copy;
        }

        int temperature() {
            return forecast.get(hour % forecast.size()) + heat;
        }

        Hiker in(int bunk) {
            return hikers.stream().filter(h -> h.bunk != null && h.bunk == bunk).findFirst().orElse(null);
        }

        Hiker user(int blanket) {
            return hikers.stream().filter(h -> h.blanket != null && h.blanket == blanket).findFirst().orElse(null);
        }

        int warmth(Hiker hiker) {
            int warmth = temperature();
            if (hiker.blanket != null) {
                warmth += blankets.get(hiker.blanket);
            }
            if (hiker.bunk != null) {
                warmth += heights.get(hiker.bunk);
                warmth += in(hiker.bunk - 1) != null ? 1 : 0;
                warmth += in(hiker.bunk + 1) != null ? 1 : 0;
            }
            return warmth;
        }

        boolean cold(Hiker hiker) {
            return warmth(hiker) < hiker.need;
        }

        int noise(int bunk) {
            int beside = 0;
            int beyond = 0;
            for (Hiker hiker : hikers) {
                if (hiker.bunk == null || cold(hiker)) {
                    continue;
                }
                int distance = Math.abs(hiker.bunk - bunk);
                beside += distance == 1 ? hiker.snore : 0;
                beyond += distance == 2 ? hiker.snore : 0;
            }
            return beside + beyond / 2;
        }

        int activity(Hiker hiker) {
            if (cold(hiker)) {
                return 0;
            }
            if (hiker.bunk == null) {
                return 3;
            }
            return noise(hiker.bunk) > 6 ? 1 : 2;
        }

        int count(int activity) {
            return (int) hikers.stream().filter(hiker -> activity(hiker) == activity).count();
        }

        void pay(Hiker hiker, int amount, boolean toHut) {
            int coins = Math.min(hiker.coins, amount);
            hiker.coins -= coins;
            hiker.debt += amount - coins;
            hutCoins += toHut ? coins : 0;
        }

        void passHour() {
            int burning = Math.min(rate, logs);
            logs -= burning;
            burned += burning;
            unpaidLogs += burning;
            heat = heat / 2 + 4 * burning;
            List<Integer> happening = new ArrayList<>();
            hikers.forEach(hiker -> happening.add(activity(hiker)));
            for (int i = 0; i < hikers.size(); i++) {
                hikers.get(i).diary.add(happening.get(i));
            }
            hour++;
            if (hour % 8 == 0) {
                dawn();
            }
        }

        void dawn() {
            hikers.forEach(hiker -> pay(hiker, 3, true));
            int[] parts = new int[hikers.size()];
            for (int i = 0; i < parts.length; i++) {
                parts[i] = 2 * unpaidLogs / parts.length;
            }
            for (int i = 0; i < 2 * unpaidLogs % parts.length; i++) {
                parts[i]++;
            }
            for (int i = 0; i < parts.length; i++) {
                pay(hikers.get(i), parts[i], true);
            }
            unpaidLogs = 0;
            int pot = 0;
            List<Hiker> bare = new ArrayList<>();
            for (Hiker hiker : hikers) {
                if (hiker.blanket == null) {
                    bare.add(hiker);
                } else {
                    int before = hiker.coins;
                    pay(hiker, (int) Math.ceil(blankets.get(hiker.blanket) / 3.0), false);
                    pot += before - hiker.coins;
                }
            }
            for (Hiker hiker : bare) {
                hiker.coins += pot / bare.size();
            }
            hutCoins += bare.isEmpty() ? pot : pot % bare.size();
        }

        void swap(int one, int other) {
            Integer blanket = hikers.get(one).blanket;
            hikers.get(one).blanket = hikers.get(other).blanket;
            hikers.get(other).blanket = blanket;
        }
    }

    State s;
    final List<State> past = new ArrayList<>();
    final State[] snapshots = new State[2];
    String text = "";
    String output = "";
    int code = 0;
    int position = -1;

    HutModel() {
        text = "hut 20; bunks 0 1 3 1 0; blankets 3 5 2; forecast 6 3 1 4; "
                + "hiker 10 8 12; hiker 7 2 5; hiker 12 0 30; hiker 9 5 1;";
        loadSetup();
    }

    // ---- texts

    /** Stops the reading of a text. */
    private static final class Wrong extends RuntimeException {
        private static final long serialVersionUID = 1L;
    }

    private final List<String> tokens = new ArrayList<>();
    private final List<Integer> places = new ArrayList<>();
    private int at;

    private void cut() {
        tokens.clear();
        places.clear();
        at = 0;
        int from = 0;
        while (from < text.length()) {
            String rest = text.substring(from);
            if (rest.matches("(?s)[ \n].*")) {
                from++;
                continue;
            }
            String token = rest.replaceFirst("(?s)^([a-z]+|[0-9]+|.).*$", "$1");
            tokens.add(token);
            places.add(from);
            from += token.length();
        }
        tokens.add("");
        places.add(text.length());
    }

    private Wrong wrong(int number) {
        code = number;
        position = places.get(at);
        return new Wrong();
    }

    private void expect(String token) {
        if (!tokens.get(at).equals(token)) {
            throw wrong(1);
        }
        at++;
    }

    private boolean seesNumber() {
        return tokens.get(at).matches("[0-9]+");
    }

    private int number(int low, int high) {
        if (!seesNumber()) {
            throw wrong(1);
        }
        java.math.BigInteger value = new java.math.BigInteger(tokens.get(at));
        if (value.compareTo(java.math.BigInteger.valueOf(low)) < 0
                || value.compareTo(java.math.BigInteger.valueOf(high)) > 0) {
            throw wrong(2);
        }
        at++;
        return value.intValue();
    }

    private void numbers(List<Integer> row, int least, int low, int high) {
        while (row.size() < least || seesNumber()) {
            int value = number(low, high);
            if (row.size() == 12) {
                at--;
                throw wrong(3);
            }
            row.add(value);
        }
        expect(";");
    }

    private State setup() {
        State state = new State();
        expect("hut");
        state.logs = number(0, 99);
        expect(";");
        expect("bunks");
        numbers(state.heights, 1, 0, 5);
        expect("blankets");
        numbers(state.blankets, 0, 1, 9);
        expect("forecast");
        numbers(state.forecast, 1, 0, 20);
        do {
            expect("hiker");
            if (state.hikers.size() == 10) {
                at--;
                throw wrong(3);
            }
            Hiker hiker = new Hiker();
            hiker.need = number(1, 30);
            hiker.snore = number(0, 9);
            hiker.coins = number(0, 99);
            expect(";");
            state.hikers.add(hiker);
        } while (!tokens.get(at).isEmpty());
        return state;
    }

    private List<int[]> script() {
        List<String> words = List.of("take", "return", "swap", "lie", "rise", "burn", "fetch", "pay", "pass");
        List<int[]> commands = new ArrayList<>();
        while (!tokens.get(at).isEmpty()) {
            int word = words.indexOf(tokens.get(at));
            if (word < 0) {
                throw wrong(1);
            }
            if (commands.size() == 30) {
                throw wrong(3);
            }
            at++;
            int[] command = {word, 0, 0};
            switch (words.get(word)) {
                case "burn" -> command[1] = number(0, 3);
                case "fetch" -> command[1] = number(1, 50);
                case "pass" -> command[1] = number(1, 48);
                default -> command[1] = number(0, 9);
            }
            switch (words.get(word)) {
                case "take", "lie" -> command[2] = number(0, 11);
                case "swap" -> command[2] = number(0, 9);
                case "pay" -> command[2] = number(1, 99);
                default -> { }
            }
            expect(";");
            commands.add(command);
        }
        return commands;
    }

    private void begin() {
        cut();
        code = 0;
        position = -1;
        text = "";
    }

    public int appendText(int four) {
        if (text.length() > 496) {
            throw new IllegalStateException();
        }
        for (byte octet : java.nio.ByteBuffer.allocate(4).putInt(four).array()) {
            text += (char) (octet & 0xff);
        }
        return text.length();
    }

    public int truncateText(int length) {
        if (length < 0 || length > text.length()) {
            throw new IllegalArgumentException();
        }
        text = text.substring(0, length);
        return length;
    }

    public int loadSetup() {
        begin();
        try {
            s = setup();
        } catch (Wrong wrong) {
            return -1;
        }
        past.clear();
        return s.hikers.size();
    }

    public int runScript() {
        begin();
        List<int[]> commands;
        try {
            commands = script();
        } catch (Wrong wrong) {
            return -1;
        }
        int done = 0;
        for (int[] c : commands) {
            try {
                switch (c[0]) {
                    case 0 -> takeBlanket(c[1], c[2]);
                    case 1 -> returnBlanket(c[1]);
                    case 2 -> swapBlankets(c[1], c[2]);
                    case 3 -> lieDown(c[1], c[2]);
                    case 4 -> getUp(c[1]);
                    case 5 -> setRate(c[1]);
                    case 6 -> fetchLogs(c[1]);
                    case 7 -> payDebt(c[1], c[2]);
                    default -> passHours(c[1]);
                }
            } catch (RuntimeException stop) {
                return done;
            }
            done++;
        }
        return done;
    }

    public int errorCode() {
        return code;
    }

    public int errorPosition() {
        return position;
    }

    // ---- the hut

    public int hour() {
        return s.hour;
    }

    public int hoursUntilDawn() {
        int hours = 1;
        while ((s.hour + hours) % 8 != 0) {
            hours++;
        }
        return hours;
    }

    public int logs() {
        return s.logs;
    }

    public int temperature() {
        return s.temperature();
    }

    private void bunk(int bunk) {
        if (bunk < 0 || bunk >= s.heights.size()) {
            throw new IndexOutOfBoundsException();
        }
    }

    private void blanket(int blanket) {
        if (blanket < 0 || blanket >= s.blankets.size()) {
            throw new IndexOutOfBoundsException();
        }
    }

    private Hiker hiker(int hiker) {
        if (hiker < 0 || hiker >= s.hikers.size()) {
            throw new IndexOutOfBoundsException();
        }
        return s.hikers.get(hiker);
    }

    public int hikerIn(int bunk) {
        bunk(bunk);
        return s.hikers.indexOf(s.in(bunk));
    }

    public int noiseIn(int bunk) {
        bunk(bunk);
        return s.noise(bunk);
    }

    private static int first(List<Integer> numbers, Comparator<Integer> order) {
        return numbers.stream().min(order.thenComparing(number -> number)).orElse(-1);
    }

    private List<Integer> bunks(Hiker welcome) {
        List<Integer> bunks = new ArrayList<>();
        for (int bunk = 0; bunk < s.heights.size(); bunk++) {
            if (s.in(bunk) == null || s.in(bunk) == welcome) {
                bunks.add(bunk);
            }
        }
        return bunks;
    }

    public int quietestBunk() {
        Comparator<Integer> quiet = Comparator.comparing(s::noise);
        return first(bunks(null), quiet.thenComparing(bunk -> -s.heights.get(bunk)));
    }

    public int longestRow() {
        StringBuilder row = new StringBuilder();
        for (int bunk = 0; bunk < s.heights.size(); bunk++) {
            row.append(s.in(bunk) == null ? ' ' : 'x');
        }
        int longest = 0;
        for (String part : row.toString().split(" ")) {
            longest = Math.max(longest, part.length());
        }
        return longest;
    }

    private State with(int hiker, Integer bunk) {
        State other = s.copy();
        other.hikers.get(hiker).bunk = bunk;
        return other;
    }

    public int bestPlaceFor(int hiker) {
        List<Integer> bunks = bunks(hiker(hiker));
        int best = first(bunks, Comparator.comparing(bunk -> -with(hiker, bunk).count(2)));
        return best >= 0 && with(hiker, best).count(2) > with(hiker, null).count(2) ? best : -1;
    }

    // ---- blankets

    public int userOf(int blanket) {
        blanket(blanket);
        return s.hikers.indexOf(s.user(blanket));
    }

    private List<Integer> pile() {
        List<Integer> pile = new ArrayList<>();
        for (int blanket = 0; blanket < s.blankets.size(); blanket++) {
            if (s.user(blanket) == null) {
                pile.add(blanket);
            }
        }
        return pile;
    }

    public int blanketOnPile(int rank) {
        List<Integer> pile = pile();
        pile.sort(Comparator.comparing(blanket -> -s.blankets.get(blanket)));
        if (rank < 0 || rank >= pile.size()) {
            throw new NoSuchElementException();
        }
        return pile.get(rank);
    }

    public int pileSize() {
        return pile().size();
    }

    public int fittingBlanket(int hiker) {
        hiker(hiker);
        List<Integer> fitting = new ArrayList<>();
        for (int blanket : pile()) {
            State other = s.copy();
            other.hikers.get(hiker).blanket = blanket;
            if (!other.cold(other.hikers.get(hiker))) {
                fitting.add(blanket);
            }
        }
        return first(fitting, Comparator.comparing(s.blankets::get));
    }

    // ---- hikers

    public int hikerCount() {
        return s.hikers.size();
    }

    private static int orNone(Integer number) {
        return number == null ? -1 : number;
    }

    public int bunkOf(int hiker) {
        return orNone(hiker(hiker).bunk);
    }

    public int blanketOf(int hiker) {
        return orNone(hiker(hiker).blanket);
    }

    public int warmth(int hiker) {
        return s.warmth(hiker(hiker));
    }

    public int activity(int hiker) {
        return s.activity(hiker(hiker));
    }

    public int hoursOf(int hiker, int activity) {
        Hiker one = hiker(hiker);
        if (!List.of(0, 1, 2, 3).contains(activity)) {
            throw new IllegalArgumentException();
        }
        return one.times(activity);
    }

    public int coinsOf(int hiker) {
        return hiker(hiker).coins;
    }

    public int debtOf(int hiker) {
        return hiker(hiker).debt;
    }

    public int hikerAtRank(int rank) {
        List<Hiker> ranked = new ArrayList<>(s.hikers);
        Comparator<Hiker> sleep = Comparator.comparing(hiker -> -hiker.times(2));
        ranked.sort(sleep.thenComparing(hiker -> hiker.times(0)));
        if (rank < 0 || rank >= ranked.size()) {
            throw new NoSuchElementException();
        }
        return s.hikers.indexOf(ranked.get(rank));
    }

    private List<Integer> everybody() {
        List<Integer> numbers = new ArrayList<>();
        s.hikers.forEach(hiker -> numbers.add(numbers.size()));
        return numbers;
    }

    public int worstSnorer() {
        ToIntFunction<Integer> awake = silent -> {
            State other = s.copy();
            other.hikers.get(silent).snore = 0;
            return other.count(1);
        };
        int worst = first(everybody(), Comparator.comparingInt(awake));
        return awake.applyAsInt(worst) < s.count(1) ? worst : -1;
    }

    // ---- fairness

    public int hikersWithout() {
        return (int) s.hikers.stream().filter(hiker -> hiker.blanket == null).count();
    }

    public int coldHikers() {
        return (int) s.hikers.stream().filter(s::cold).count();
    }

    public int coldestHiker() {
        return first(everybody(), Comparator.comparing(i -> s.warmth(hiker(i)) - hiker(i).need));
    }

    public int fewestCold() {
        int[] owner = new int[s.blankets.size()];
        java.util.Arrays.fill(owner, -1);
        int cold = 0;
        for (int i = 0; i < s.hikers.size(); i++) {
            boolean isColdBare = isColdWith(i, null);
            if (isColdBare && !findsBlanket(i, owner, new boolean[owner.length])) {
                cold++;
            }
        }
        return cold;
    }

    private boolean isColdWith(int hiker, Integer blanket) {
        State other = s.copy();
        other.hikers.get(hiker).blanket = blanket;
        return other.cold(other.hikers.get(hiker));
    }

    private boolean findsBlanket(int hiker, int[] owner, boolean[] tried) {
        for (int blanket = 0; blanket < owner.length; blanket++) {
            if (tried[blanket] || isColdWith(hiker, blanket)) {
                continue;
            }
            tried[blanket] = true;
            if (owner[blanket] < 0 || findsBlanket(owner[blanket], owner, tried)) {
                owner[blanket] = hiker;
                return true;
            }
        }
        return false;
    }

    public int bestExchange() {
        int best = -1;
        int fewest = coldHikers();
        for (int i = 0; i < s.hikers.size(); i++) {
            for (int j = i + 1; j < s.hikers.size(); j++) {
                State other = s.copy();
                other.swap(i, j);
                if (other.count(0) < fewest) {
                    fewest = other.count(0);
                    best = 10 * i + j;
                }
            }
        }
        return best;
    }

    public int warmestBunk(int hiker) {
        Comparator<Integer> warm = Comparator.comparing(bunk -> {
            State other = with(hiker, bunk);
            return -other.warmth(other.hikers.get(hiker));
        });
        return first(bunks(hiker(hiker)), warm.thenComparing(bunk -> with(hiker, bunk).noise(bunk)));
    }

    // ---- totals and checks

    public int hutCoins() {
        return s.hutCoins;
    }

    public int burnedLogs() {
        return s.burned;
    }

    public int totalDebt() {
        return s.hikers.stream().mapToInt(hiker -> hiker.debt).sum();
    }

    public int auditDifference() {
        return 0;
    }

    public double meanWarmth() {
        return (double) s.hikers.stream().mapToInt(s::warmth).sum() / (double) s.hikers.size();
    }

    public float sleepShare() {
        int slept = s.hikers.stream().mapToInt(hiker -> hiker.times(2)).sum();
        return s.hour == 0 ? 0.0f : (float) slept / (float) (s.hour * s.hikers.size());
    }

    // ---- predictions

    private State after(int hours) {
        State other = s.copy();
        for (int i = 0; i < hours; i++) {
            other.passHour();
        }
        return other;
    }

    private static void foreseeable(int hours) {
        if (hours < 0 || hours > 96) {
            throw new IllegalArgumentException();
        }
    }

    public int temperatureAfter(int hours) {
        foreseeable(hours);
        return after(hours).temperature();
    }

    public int shiversUntilDawn(int hiker) {
        return after(hoursUntilDawn()).hikers.get(s.hikers.indexOf(hiker(hiker))).times(0) - hiker(hiker).times(0);
    }

    public int paymentAtDawn(int hiker) {
        hiker(hiker);
        State rich = s.copy();
        rich.hikers.forEach(one -> one.coins = 1000);
        rich.hikers.forEach(one -> one.debt = 0);
        for (int i = hoursUntilDawn(); i > 0; i--) {
            if (rich.hikers.get(hiker).blanket == null && i == 1) {
                // The pot would hide what is paid: so nobody puts coins into it.
                rich.hikers.stream().filter(one -> one.blanket != null).forEach(one -> one.coins = 0);
            }
            rich.passHour();
        }
        return 1000 - rich.hikers.get(hiker).coins;
    }

    public int debtAfter(int hiker, int hours) {
        hiker(hiker);
        foreseeable(hours);
        return after(hours).hikers.get(hiker).debt;
    }

    public int dawnsUntilDebt(int hiker) {
        if (hiker(hiker).debt > 0) {
            return 0;
        }
        for (int dawn = 1; dawn <= 12; dawn++) {
            if (after(hoursUntilDawn() + 8 * (dawn - 1)).hikers.get(hiker).debt > 0) {
                return dawn;
            }
        }
        return -1;
    }

    public int hoursUntilNoLogs() {
        for (int hours = 0; hours <= 96; hours++) {
            if (after(hours).logs == 0) {
                return hours;
            }
        }
        return -1;
    }

    private int sumUntilDawn(int rate, int activity) {
        State other = s.copy();
        other.rate = rate;
        for (int i = hoursUntilDawn(); i > 0; i--) {
            other.passHour();
        }
        int then = other.hikers.stream().mapToInt(hiker -> hiker.times(activity)).sum();
        return then - s.hikers.stream().mapToInt(hiker -> hiker.times(activity)).sum();
    }

    public int rateNeeded() {
        return List.of(0, 1, 2, 3).stream().filter(rate -> sumUntilDawn(rate, 0) == 0).findFirst().orElse(-1);
    }

    public int bestRate() {
        return first(List.of(0, 1, 2, 3), Comparator.comparing(rate -> -sumUntilDawn(rate, 2)));
    }

    // ---- actions

    private void state(boolean isRight) {
        if (!isRight) {
            throw new IllegalStateException();
        }
    }

    private void argument(boolean isRight) {
        if (!isRight) {
            throw new IllegalArgumentException();
        }
    }

    private void remember() {
        past.add(s.copy());
        if (past.size() > 6) {
            past.remove(0);
        }
    }

    public int takeBlanket(int hiker, int blanket) {
        hiker(hiker);
        blanket(blanket);
        state(s.user(blanket) == null);
        remember();
        hiker(hiker).blanket = blanket;
        return s.warmth(hiker(hiker));
    }

    public int returnBlanket(int hiker) {
        state(hiker(hiker).blanket != null);
        remember();
        int blanket = hiker(hiker).blanket;
        hiker(hiker).blanket = null;
        return blanket;
    }

    public int swapBlankets(int hiker, int other) {
        hiker(hiker);
        hiker(other);
        state(hiker != other);
        state(hiker(hiker).blanket != null || hiker(other).blanket != null);
        remember();
        s.swap(hiker, other);
        return s.count(0);
    }

    public int lieDown(int hiker, int bunk) {
        hiker(hiker);
        bunk(bunk);
        state(s.in(bunk) == null);
        remember();
        hiker(hiker).bunk = bunk;
        return s.noise(bunk);
    }

    public int getUp(int hiker) {
        state(hiker(hiker).bunk != null);
        remember();
        int bunk = hiker(hiker).bunk;
        hiker(hiker).bunk = null;
        return bunk;
    }

    public int setRate(int rate) {
        argument(rate >= 0 && rate <= 3);
        remember();
        int before = s.rate;
        s.rate = rate;
        return before;
    }

    public int fetchLogs(int logs) {
        argument(logs >= 1 && logs <= 50);
        state(s.logs + logs <= 99);
        remember();
        s.logs += logs;
        return s.logs;
    }

    public int payDebt(int hiker, int coins) {
        hiker(hiker);
        argument(coins >= 1 && coins <= 99);
        state(hiker(hiker).coins >= coins);
        state(hiker(hiker).debt >= coins);
        remember();
        hiker(hiker).coins -= coins;
        hiker(hiker).debt -= coins;
        s.hutCoins += coins;
        return hiker(hiker).debt;
    }

    public int passHours(int hours) {
        argument(hours >= 1 && hours <= 48);
        state(s.hour + hours <= 9999);
        remember();
        int before = s.hutCoins;
        for (int i = 0; i < hours; i++) {
            s.passHour();
        }
        return s.hutCoins - before;
    }

    // ---- output, undo and snapshots

    public int writeBunks() {
        List<String> parts = new ArrayList<>();
        for (int bunk = 0; bunk < s.heights.size(); bunk++) {
            Hiker hiker = s.in(bunk);
            if (hiker == null) {
                parts.add("-");
                continue;
            }
            String thickness = hiker.blanket == null ? "" : "" + s.blankets.get(hiker.blanket);
            String mark = List.of("!", "?", "", "").get(s.activity(hiker));
            parts.add("abcdefghij".charAt(s.hikers.indexOf(hiker)) + thickness + mark);
        }
        output = String.join(" ", parts);
        return output.length();
    }

    public int writeLedger() {
        List<String> parts = new ArrayList<>();
        for (Hiker hiker : s.hikers) {
            String debt = hiker.debt > 0 ? "-" + hiker.debt : "";
            char letter = "abcdefghij".charAt(parts.size());
            parts.add(letter + "=" + hiker.coins + debt + "/" + hiker.times(2));
        }
        output = String.join(" ", parts);
        return output.length();
    }

    public int outputByte(int index) {
        return index >= 0 && index < output.length() ? output.charAt(index) : -1;
    }

    public int undo() {
        state(!past.isEmpty());
        s = past.remove(past.size() - 1);
        return past.size();
    }

    public void saveSnapshot(int number) {
        argument(number == 0 || number == 1);
        snapshots[number] = s.copy();
    }

    public void restoreSnapshot(int number) {
        argument(number == 0 || number == 1);
        state(snapshots[number] != null);
        s = snapshots[number].copy();
        past.clear();
    }
}
