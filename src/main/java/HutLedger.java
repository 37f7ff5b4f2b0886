import java.util.NoSuchElementException;

/** A ledger of a mountain hut with too few blankets; the document tells what each call does. */
public final class HutLedger {
    public static final int NONE = -1;
    public static final int SHIVERS = 0;
    public static final int LIES_AWAKE = 1;
    public static final int SLEEPS = 2;
    public static final int WAITS = 3;

    private static final String FIRST_SETUP =
            "hut 20; bunks 0 1 3 1 0; blankets 3 5 2; forecast 6 3 1 4; hiker 10 8 12; hiker 7 2 5; hiker 12 0 30; hiker 9 5 1;";

    private static final int MAX_BUNKS = 12;
    private static final int MAX_BLANKETS = 12;
    private static final int MAX_FORECAST = 12;
    private static final int MAX_HIKERS = 10;
    private static final int MAX_COMMANDS = 30;
    private static final int MAX_TEXT = 500;
    private static final int MAX_OUTPUT = 400;
    private static final int MAX_LOGS = 99;
    private static final int MAX_COINS = 99;
    private static final int MAX_HEIGHT = 5;
    private static final int MAX_THICKNESS = 9;
    private static final int MAX_TEMPERATURE = 20;
    private static final int MAX_NEED = 30;
    private static final int MAX_SNORE = 9;
    private static final int MAX_RATE = 3;
    private static final int MAX_FETCH = 50;
    private static final int MAX_PASS = 48;
    private static final int MAX_UNDO = 6;
    private static final int SNAPSHOTS = 2;
    private static final int ACTIVITIES = 4;

    private static final int LAST_HOUR = 9999;
    private static final int HOURS_OF_A_NIGHT = 8;
    private static final int FARTHEST_HOURS = 96;
    private static final int FARTHEST_DAWNS = 12;
    private static final int NOISE_FOR_SLEEP = 6;
    private static final int HEAT_OF_A_LOG = 4;
    private static final int PRICE_OF_A_NIGHT = 3;
    private static final int PRICE_OF_A_LOG = 2;

    private static final int TAKE = 0;
    private static final int RETURN = 1;
    private static final int SWAP = 2;
    private static final int LIE = 3;
    private static final int RISE = 4;
    private static final int BURN = 5;
    private static final int FETCH = 6;
    private static final int PAY = 7;
    private static final int PASS = 8;

    private static final int NO_FAULT = 0;
    private static final int NO_SUCH_INDEX = 1;
    private static final int WRONG_ARGUMENT = 2;
    private static final int WRONG_STATE = 3;

    private static final int NO_ERROR = 0;
    private static final int NOT_ALLOWED = 1;
    private static final int OUT_OF_RANGE = 2;
    private static final int TOO_MANY = 3;

    private final Hut present = new Hut();
    // Setups are read into this one, and no action is ever done in it: it stays at hour 0.
    private final Hut draft = new Hut();
    private final Planner planner = new Planner();
    private final History history = new History();
    private final Hut[] snapshots = newHuts(SNAPSHOTS);
    private final boolean[] isSaved = new boolean[SNAPSHOTS];
    private final Grammar grammar = new Grammar();
    private final Script script = new Script();
    private final Output output = new Output();

    public HutLedger() {
        grammar.text.putAll(FIRST_SETUP);
        grammar.readSetup(present);
        grammar.text.length = 0;
    }

    private static Hut[] newHuts(int count) {
        Hut[] huts = new Hut[count < 0 ? 0 : count];
        for (int i = 0; i < huts.length; i++) {
            huts[i] = new Hut();
        }
        return huts;
    }

    private static boolean isWithin(int value, int low, int high) {
        return low <= value && value <= high;
    }

    // ---- texts

    public int appendText(int fourBytes) throws IllegalStateException {
        if (!grammar.text.hasRoomFor(4)) {
            throw new IllegalStateException("the text buffer would exceed 500 bytes");
        }
        grammar.text.put(fourBytes >>> 24);
        grammar.text.put(fourBytes >>> 16);
        grammar.text.put(fourBytes >>> 8);
        grammar.text.put(fourBytes);
        return grammar.text.length;
    }

    public int truncateText(int length) throws IllegalArgumentException {
        if (!isWithin(length, 0, grammar.text.length)) {
            throw new IllegalArgumentException("no such length");
        }
        grammar.text.length = length;
        return length;
    }

    public int loadSetup() {
        boolean isRight = grammar.readSetup(draft);
        grammar.text.length = 0;
        if (!isRight) {
            return NONE;
        }
        present.copyFrom(draft);
        history.forget();
        return present.hikerCount;
    }

    public int runScript() {
        boolean isRight = grammar.readScript(script);
        grammar.text.length = 0;
        if (!isRight) {
            return NONE;
        }
        for (int i = 0; i < script.count; i++) {
            int command = script.commands[i];
            int first = script.firsts[i];
            int second = script.seconds[i];
            if (present.faultOf(command, first, second) != NO_FAULT) {
                return i;
            }
            history.keep(present);
            present.perform(command, first, second);
        }
        return script.count;
    }

    public int errorCode() {
        return grammar.errorCode;
    }

    public int errorPosition() {
        return grammar.errorPosition;
    }

    // ---- the hut

    public int hour() {
        return present.hour;
    }

    public int hoursUntilDawn() {
        return present.hoursToDawn();
    }

    public int logs() {
        return present.logs;
    }

    public int temperature() {
        return present.temperatureInside();
    }

    public int hikerIn(int bunk) throws IndexOutOfBoundsException {
        demandBunk(bunk);
        return present.sleeperIn(bunk);
    }

    public int noiseIn(int bunk) throws IndexOutOfBoundsException {
        demandBunk(bunk);
        return present.noiseAt(bunk);
    }

    public int quietestBunk() {
        return present.quietestEmptyBunk();
    }

    public int longestRow() {
        return present.longestRowOfSleepers();
    }

    public int bestPlaceFor(int hiker) throws IndexOutOfBoundsException {
        demandHiker(hiker);
        return planner.placeForMostSleep(present, hiker);
    }

    private void demandBunk(int bunk) {
        if (!present.hasBunk(bunk)) {
            throw new IndexOutOfBoundsException("no such bunk");
        }
    }

    private void demandHiker(int hiker) {
        if (!present.hasHiker(hiker)) {
            throw new IndexOutOfBoundsException("no such hiker");
        }
    }

    // ---- blankets

    public int userOf(int blanket) throws IndexOutOfBoundsException {
        if (!present.hasBlanket(blanket)) {
            throw new IndexOutOfBoundsException("no such blanket");
        }
        return present.userOfBlanket(blanket);
    }

    public int blanketOnPile(int rank) throws NoSuchElementException {
        int blanket = present.blanketAtRank(rank);
        if (blanket == NONE) {
            throw new NoSuchElementException("no such rank");
        }
        return blanket;
    }

    public int pileSize() {
        return present.blanketsOnPile();
    }

    public int fittingBlanket(int hiker) throws IndexOutOfBoundsException {
        demandHiker(hiker);
        return present.thinnestFitting(hiker);
    }

    // ---- hikers

    public int hikerCount() {
        return present.hikerCount;
    }

    public int bunkOf(int hiker) throws IndexOutOfBoundsException {
        demandHiker(hiker);
        return present.hikers[hiker].bunk;
    }

    public int blanketOf(int hiker) throws IndexOutOfBoundsException {
        demandHiker(hiker);
        return present.hikers[hiker].blanket;
    }

    public int warmth(int hiker) throws IndexOutOfBoundsException {
        demandHiker(hiker);
        return present.hikers[hiker].warmth;
    }

    public int activity(int hiker) throws IndexOutOfBoundsException {
        demandHiker(hiker);
        return present.activityNow(hiker);
    }

    public int hoursOf(int hiker, int activity) throws IndexOutOfBoundsException, IllegalArgumentException {
        demandHiker(hiker);
        if (!isWithin(activity, 0, ACTIVITIES - 1)) {
            throw new IllegalArgumentException("no such activity");
        }
        return present.hikers[hiker].hours[activity];
    }

    public int coinsOf(int hiker) throws IndexOutOfBoundsException {
        demandHiker(hiker);
        return present.hikers[hiker].coins;
    }

    public int debtOf(int hiker) throws IndexOutOfBoundsException {
        demandHiker(hiker);
        return present.hikers[hiker].debt;
    }

    public int hikerAtRank(int rank) throws NoSuchElementException {
        int hiker = present.hikerOfRank(rank);
        if (hiker == NONE) {
            throw new NoSuchElementException("no such rank");
        }
        return hiker;
    }

    public int worstSnorer() {
        return planner.loudestDisturber(present);
    }

    // ---- fairness

    public int hikersWithout() {
        return present.hikersWithoutBlanket();
    }

    public int coldHikers() {
        return present.coldCount();
    }

    public int coldestHiker() {
        return present.hikerMissingMost();
    }

    public int fewestCold() {
        return present.coldIfSharedBest();
    }

    public int bestExchange() {
        return present.exchangeForFewestCold();
    }

    public int warmestBunk(int hiker) throws IndexOutOfBoundsException {
        demandHiker(hiker);
        return planner.bunkForMostWarmth(present, hiker);
    }

    // ---- totals and checks

    public int hutCoins() {
        return present.paidCoins;
    }

    public int burnedLogs() {
        return present.burned;
    }

    public int totalDebt() {
        return present.sumOfDebts();
    }

    public int auditDifference() {
        return Math.abs(present.firstCoins - present.paidCoins - present.sumOfCoins())
                + Math.abs(present.receivedLogs - present.logs - present.burned)
                + present.thingsUsedTwice();
    }

    public double meanWarmth() {
        int hikers = present.hikerCount;
        return hikers < 1 ? 0.0 : (double) present.sumOfWarmths() / (double) hikers;
    }

    public float sleepShare() {
        int hours = present.hour * present.hikerCount;
        return hours < 1 ? 0.0f : (float) present.sumOfHours(SLEEPS) / (float) hours;
    }

    // ---- predictions

    public int temperatureAfter(int hours) throws IllegalArgumentException {
        demandForeseeable(hours);
        return planner.temperatureIn(present, hours);
    }

    public int shiversUntilDawn(int hiker) throws IndexOutOfBoundsException {
        demandHiker(hiker);
        return planner.shiversToDawn(present, hiker);
    }

    public int paymentAtDawn(int hiker) throws IndexOutOfBoundsException {
        demandHiker(hiker);
        return planner.paymentNextDawn(present, hiker);
    }

    public int debtAfter(int hiker, int hours) throws IndexOutOfBoundsException, IllegalArgumentException {
        demandHiker(hiker);
        demandForeseeable(hours);
        return planner.debtIn(present, hiker, hours);
    }

    public int dawnsUntilDebt(int hiker) throws IndexOutOfBoundsException {
        demandHiker(hiker);
        return planner.dawnsToDebt(present, hiker);
    }

    public int hoursUntilNoLogs() {
        return planner.hoursToNoLogs(present);
    }

    public int rateNeeded() {
        return planner.rateWithoutShivers(present);
    }

    public int bestRate() {
        return planner.rateForMostSleep(present);
    }

    private static void demandForeseeable(int hours) {
        if (!isWithin(hours, 0, FARTHEST_HOURS)) {
            throw new IllegalArgumentException("hours out of range");
        }
    }

    // ---- actions

    public int takeBlanket(int hiker, int blanket) throws IndexOutOfBoundsException, IllegalStateException {
        return act(TAKE, hiker, blanket);
    }

    public int returnBlanket(int hiker) throws IndexOutOfBoundsException, IllegalStateException {
        return act(RETURN, hiker, 0);
    }

    public int swapBlankets(int hiker, int other) throws IndexOutOfBoundsException, IllegalStateException {
        return act(SWAP, hiker, other);
    }

    public int lieDown(int hiker, int bunk) throws IndexOutOfBoundsException, IllegalStateException {
        return act(LIE, hiker, bunk);
    }

    public int getUp(int hiker) throws IndexOutOfBoundsException, IllegalStateException {
        return act(RISE, hiker, 0);
    }

    public int setRate(int rate) throws IllegalArgumentException {
        return act(BURN, rate, 0);
    }

    public int fetchLogs(int logs) throws IllegalArgumentException, IllegalStateException {
        return act(FETCH, logs, 0);
    }

    public int payDebt(int hiker, int coins)
            throws IndexOutOfBoundsException, IllegalArgumentException, IllegalStateException {
        return act(PAY, hiker, coins);
    }

    public int passHours(int hours) throws IllegalArgumentException, IllegalStateException {
        return act(PASS, hours, 0);
    }

    private int act(int command, int first, int second) {
        refuse(present.faultOf(command, first, second));
        history.keep(present);
        return present.perform(command, first, second);
    }

    private static void refuse(int fault) {
        if (fault == NO_SUCH_INDEX) {
            throw new IndexOutOfBoundsException("no such hiker, blanket or bunk");
        }
        if (fault == WRONG_ARGUMENT) {
            throw new IllegalArgumentException("argument out of range");
        }
        if (fault == WRONG_STATE) {
            throw new IllegalStateException("the hut does not allow this now");
        }
    }

    // ---- output, undo and snapshots

    public int writeBunks() {
        output.clear();
        for (int bunk = 0; bunk < present.bunkCount; bunk++) {
            if (bunk > 0) {
                output.put(' ');
            }
            writeBunk(bunk);
        }
        return output.length;
    }

    private void writeBunk(int bunk) {
        int hiker = present.sleeperIn(bunk);
        if (!present.hasHiker(hiker)) {
            output.put('-');
            return;
        }
        output.put('a' + hiker);
        if (present.hikers[hiker].cover > 0) {
            output.putNumber(present.hikers[hiker].cover);
        }
        int activity = present.activityNow(hiker);
        if (activity == SHIVERS) {
            output.put('!');
        } else if (activity == LIES_AWAKE) {
            output.put('?');
        }
    }

    public int writeLedger() {
        output.clear();
        for (int i = 0; i < present.hikerCount; i++) {
            if (i > 0) {
                output.put(' ');
            }
            writeHiker(i, present.hikers[i]);
        }
        return output.length;
    }

    private void writeHiker(int number, Hiker hiker) {
        output.put('a' + number);
        output.put('=');
        output.putNumber(hiker.coins);
        if (hiker.debt > 0) {
            output.put('-');
            output.putNumber(hiker.debt);
        }
        output.put('/');
        output.putNumber(hiker.hours[SLEEPS]);
    }

    public int outputByte(int index) {
        return isWithin(index, 0, output.length - 1) ? output.bytes[index] : NONE;
    }

    public int undo() throws IllegalStateException {
        if (history.size < 1) {
            throw new IllegalStateException("nothing to undo");
        }
        history.takeBack(present);
        return history.size;
    }

    public void saveSnapshot(int number) throws IllegalArgumentException {
        demandSnapshotNumber(number);
        snapshots[number].copyFrom(present);
        isSaved[number] = true;
    }

    public void restoreSnapshot(int number) throws IllegalArgumentException, IllegalStateException {
        demandSnapshotNumber(number);
        if (!isSaved[number]) {
            throw new IllegalStateException("no such snapshot");
        }
        present.copyFrom(snapshots[number]);
        history.forget();
    }

    private static void demandSnapshotNumber(int number) {
        if (!isWithin(number, 0, SNAPSHOTS - 1)) {
            throw new IllegalArgumentException("no such snapshot number");
        }
    }

    /** One hiker, who lies in a bunk or sits at the table. */
    private static final class Hiker {
        int need;
        int snore;
        int coins;
        int debt;
        int bunk = NONE;
        int blanket = NONE;
        int cover;
        int warmth;
        final int[] hours = new int[ACTIVITIES];

        void copyFrom(Hiker other) {
            need = other.need;
            snore = other.snore;
            coins = other.coins;
            debt = other.debt;
            bunk = other.bunk;
            blanket = other.blanket;
            cover = other.cover;
            warmth = other.warmth;
            System.arraycopy(other.hours, 0, hours, 0, ACTIVITIES);
        }

        boolean isCold() {
            return warmth < need;
        }

        /** Pays as many coins of the amount as there are, owes the rest, and returns the coins. */
        int payOut(int amount) {
            int paid = amount < coins ? amount : coins;
            coins -= paid;
            debt += amount - paid;
            return paid;
        }

        int feeForBlanket() {
            return (cover + 2) / 3;
        }

        /** The thickness that the hiker needs of a blanket; 0 or less if the hiker needs none. */
        int lack() {
            return need - (warmth - cover);
        }

        boolean ranksBefore(Hiker other) {
            if (hours[SLEEPS] != other.hours[SLEEPS]) {
                return hours[SLEEPS] > other.hours[SLEEPS];
            }
            return hours[SHIVERS] < other.hours[SHIVERS];
        }
    }

    /** All that undo and snapshots bring back: the building, the stove, the hikers and the totals. */
    private static final class Hut {
        // Two places on either side of the row are never used, so that neighbours need no test.
        private static final int EDGE = 2;

        int hour;
        int logs;
        int heat;
        int rate;
        int paidCoins;
        int burned;
        int burnedSinceDawn;
        int firstCoins;
        int receivedLogs;
        int bunkCount;
        int blanketCount;
        int forecastCount;
        int hikerCount;
        final int[] heights = new int[MAX_BUNKS];
        final int[] thicknesses = new int[MAX_BLANKETS];
        final int[] forecast = new int[MAX_FORECAST];
        final int[] sleepers = new int[MAX_BUNKS + 2 * EDGE];
        final int[] snores = new int[MAX_BUNKS + 2 * EDGE];
        final Hiker[] hikers = new Hiker[MAX_HIKERS];

        Hut() {
            for (int i = 0; i < hikers.length; i++) {
                hikers[i] = new Hiker();
            }
            for (int i = 0; i < sleepers.length; i++) {
                sleepers[i] = NONE;
            }
        }

        /** Ends the reading of a setup, which is only ever read into a hut in which no action was. */
        void open() {
            receivedLogs = logs;
            firstCoins = sumOfCoins();
            measure();
        }

        void copyFrom(Hut other) {
            hour = other.hour;
            logs = other.logs;
            heat = other.heat;
            rate = other.rate;
            paidCoins = other.paidCoins;
            burned = other.burned;
            burnedSinceDawn = other.burnedSinceDawn;
            firstCoins = other.firstCoins;
            receivedLogs = other.receivedLogs;
            bunkCount = other.bunkCount;
            blanketCount = other.blanketCount;
            forecastCount = other.forecastCount;
            hikerCount = other.hikerCount;
            System.arraycopy(other.heights, 0, heights, 0, MAX_BUNKS);
            System.arraycopy(other.thicknesses, 0, thicknesses, 0, MAX_BLANKETS);
            System.arraycopy(other.forecast, 0, forecast, 0, MAX_FORECAST);
            System.arraycopy(other.sleepers, 0, sleepers, 0, MAX_BUNKS + 2 * EDGE);
            System.arraycopy(other.snores, 0, snores, 0, MAX_BUNKS + 2 * EDGE);
            for (int i = 0; i < hikerCount; i++) {
                hikers[i].copyFrom(other.hikers[i]);
            }
        }

        boolean hasBunk(int bunk) {
            return 0 <= bunk && bunk < bunkCount;
        }

        boolean hasBlanket(int blanket) {
            return 0 <= blanket && blanket < blanketCount;
        }

        boolean hasHiker(int hiker) {
            return 0 <= hiker && hiker < hikerCount;
        }

        int hoursToDawn() {
            return HOURS_OF_A_NIGHT - hour % HOURS_OF_A_NIGHT;
        }

        int temperatureInside() {
            int outside = forecastCount < 1 ? 0 : forecast[hour % forecastCount];
            return outside + heat;
        }

        /** Works out every cover, every warmth and who snores where; each change of the hut ends with this. */
        void measure() {
            int inside = temperatureInside();
            for (int i = 0; i < snores.length; i++) {
                snores[i] = 0;
            }
            for (int i = 0; i < hikerCount; i++) {
                Hiker hiker = hikers[i];
                hiker.cover = hasBlanket(hiker.blanket) ? thicknesses[hiker.blanket] : 0;
                hiker.warmth = inside + hiker.cover + warmthOfBunk(hiker.bunk);
                if (hasBunk(hiker.bunk) && !hiker.isCold()) {
                    snores[hiker.bunk + EDGE] = hiker.snore;
                }
            }
        }

        private int warmthOfBunk(int bunk) {
            if (!hasBunk(bunk)) {
                return 0;
            }
            int middle = bunk + EDGE;
            int below = sleepers[middle - 1] == NONE ? 0 : 1;
            int above = sleepers[middle + 1] == NONE ? 0 : 1;
            return heights[bunk] + below + above;
        }

        int sleeperIn(int bunk) {
            return hasBunk(bunk) ? sleepers[bunk + EDGE] : NONE;
        }

        int noiseAt(int bunk) {
            if (bunk < 0 || bunk >= bunkCount) {
                return 0;
            }
            int middle = bunk + EDGE;
            int near = snores[middle - 1] + snores[middle + 1];
            int far = snores[middle - 2] + snores[middle + 2];
            return near + far / 2;
        }

        int activityNow(int hiker) {
            Hiker one = hikers[hiker];
            if (one.isCold()) {
                return SHIVERS;
            }
            if (one.bunk == NONE) {
                return WAITS;
            }
            return noiseAt(one.bunk) > NOISE_FOR_SLEEP ? LIES_AWAKE : SLEEPS;
        }

        // ---- bunks and blankets

        int quietestEmptyBunk() {
            int best = NONE;
            for (int bunk = 0; bunk < bunkCount; bunk++) {
                if (sleeperIn(bunk) == NONE && (best == NONE || isQuieter(bunk, best))) {
                    best = bunk;
                }
            }
            return best;
        }

        private boolean isQuieter(int bunk, int other) {
            int noise = noiseAt(bunk);
            int otherNoise = noiseAt(other);
            return noise < otherNoise || noise == otherNoise && heights[bunk] > heights[other];
        }

        int longestRowOfSleepers() {
            int longest = 0;
            int row = 0;
            for (int bunk = 0; bunk < bunkCount; bunk++) {
                row = sleeperIn(bunk) == NONE ? 0 : row + 1;
                longest = Math.max(longest, row);
            }
            return longest;
        }

        int userOfBlanket(int blanket) {
            for (int i = 0; i < hikerCount; i++) {
                if (hikers[i].blanket == blanket) {
                    return i;
                }
            }
            return NONE;
        }

        int blanketsOnPile() {
            return blanketCount - (hikerCount - hikersWithoutBlanket());
        }

        int blanketAtRank(int rank) {
            for (int blanket = 0; blanket < blanketCount; blanket++) {
                if (userOfBlanket(blanket) == NONE && pileRankOf(blanket) == rank) {
                    return blanket;
                }
            }
            return NONE;
        }

        private int pileRankOf(int blanket) {
            int before = 0;
            for (int other = 0; other < blanketCount; other++) {
                boolean isFirst = thicknesses[other] > thicknesses[blanket]
                        || thicknesses[other] == thicknesses[blanket] && other < blanket;
                if (isFirst && userOfBlanket(other) == NONE) {
                    before++;
                }
            }
            return before;
        }

        int thinnestFitting(int hiker) {
            int lack = hikers[hiker].lack();
            int best = NONE;
            for (int blanket = 0; blanket < blanketCount; blanket++) {
                if (thicknesses[blanket] >= lack && userOfBlanket(blanket) == NONE
                        && (best == NONE || thicknesses[blanket] < thicknesses[best])) {
                    best = blanket;
                }
            }
            return best;
        }

        /**
         * Gives the blankets out from the thinnest on, each to somebody whom it is enough for. It does
         * not matter to whom: all whom it is enough for are served as well by any thicker one.
         */
        int coldIfSharedBest() {
            int served = 0;
            for (int thickness = 1; thickness <= MAX_THICKNESS; thickness++) {
                int waiting = hikersLacking(thickness) - served;
                served += Math.min(waiting, blanketsOfThickness(thickness));
            }
            return hikersLacking(Integer.MAX_VALUE) - served;
        }

        private int hikersLacking(int most) {
            int count = 0;
            for (int i = 0; i < hikerCount; i++) {
                if (isWithin(hikers[i].lack(), 1, most)) {
                    count++;
                }
            }
            return count;
        }

        private int blanketsOfThickness(int thickness) {
            int count = 0;
            for (int blanket = 0; blanket < blanketCount; blanket++) {
                if (thicknesses[blanket] == thickness) {
                    count++;
                }
            }
            return count;
        }

        int exchangeForFewestCold() {
            int best = NONE;
            int mostSaved = 0;
            for (int i = 0; i < hikerCount; i++) {
                for (int j = i + 1; j < hikerCount; j++) {
                    int saved = savedByExchange(hikers[i], hikers[j]);
                    if (saved > mostSaved) {
                        mostSaved = saved;
                        best = 10 * i + j;
                    }
                }
            }
            return best;
        }

        /** A blanket warms its user alone, so that nobody but these two can become cold or warm. */
        private static int savedByExchange(Hiker one, Hiker other) {
            int before = (one.isCold() ? 1 : 0) + (other.isCold() ? 1 : 0);
            int after = (one.lack() > other.cover ? 1 : 0) + (other.lack() > one.cover ? 1 : 0);
            return before - after;
        }

        // ---- counts and sums

        int hikersWithoutBlanket() {
            int count = 0;
            for (int i = 0; i < hikerCount; i++) {
                if (hikers[i].blanket == NONE) {
                    count++;
                }
            }
            return count;
        }

        int coldCount() {
            return countOf(SHIVERS);
        }

        int countOf(int activity) {
            int count = 0;
            for (int i = 0; i < hikerCount; i++) {
                if (activityNow(i) == activity) {
                    count++;
                }
            }
            return count;
        }

        int hikerMissingMost() {
            int worst = 0;
            for (int i = 1; i < hikerCount; i++) {
                if (hikers[i].need - hikers[i].warmth > hikers[worst].need - hikers[worst].warmth) {
                    worst = i;
                }
            }
            return worst;
        }

        int hikerOfRank(int rank) {
            for (int i = 0; i < hikerCount; i++) {
                if (rankOfHiker(i) == rank) {
                    return i;
                }
            }
            return NONE;
        }

        private int rankOfHiker(int hiker) {
            int before = 0;
            for (int i = 0; i < hikerCount; i++) {
                boolean isEqualAndLower = i < hiker && !hikers[hiker].ranksBefore(hikers[i]);
                if (isEqualAndLower || hikers[i].ranksBefore(hikers[hiker])) {
                    before++;
                }
            }
            return before;
        }

        int sumOfCoins() {
            int sum = 0;
            for (int i = 0; i < hikerCount; i++) {
                sum += hikers[i].coins;
            }
            return sum;
        }

        int sumOfDebts() {
            int sum = 0;
            for (int i = 0; i < hikerCount; i++) {
                sum += hikers[i].debt;
            }
            return sum;
        }

        int sumOfWarmths() {
            int sum = 0;
            for (int i = 0; i < hikerCount; i++) {
                sum += hikers[i].warmth;
            }
            return sum;
        }

        int sumOfHours(int activity) {
            int sum = 0;
            for (int i = 0; i < hikerCount; i++) {
                sum += hikers[i].hours[activity];
            }
            return sum;
        }

        int thingsUsedTwice() {
            int count = 0;
            for (int i = 0; i < hikerCount; i++) {
                for (int j = i + 1; j < hikerCount; j++) {
                    count += hikers[i].bunk != NONE && hikers[i].bunk == hikers[j].bunk ? 1 : 0;
                    count += hikers[i].blanket != NONE && hikers[i].blanket == hikers[j].blanket ? 1 : 0;
                }
            }
            return count;
        }

        // ---- the course of the hours

        /** Lets hours pass and returns the coins that the hut got. */
        int passTime(int hours) {
            int before = paidCoins;
            for (int i = 0; i < hours; i++) {
                burnLogs();
                measure();
                noteWhatHappens();
                endHour();
            }
            measure();
            return paidCoins - before;
        }

        /** For predictions of the stove and the coins, to which it is nothing what the hikers do. */
        void passTimeUnwatched(int hours) {
            for (int i = 0; i < hours; i++) {
                burnLogs();
                endHour();
            }
        }

        private void burnLogs() {
            int burning = rate < logs ? rate : logs;
            logs -= burning;
            burned += burning;
            burnedSinceDawn += burning;
            heat = heat / 2 + HEAT_OF_A_LOG * burning;
        }

        private void noteWhatHappens() {
            for (int i = 0; i < hikerCount; i++) {
                hikers[i].hours[activityNow(i)]++;
            }
        }

        private void endHour() {
            hour++;
            if (hour % HOURS_OF_A_NIGHT == 0) {
                payForNight();
                payForLogs();
                payForBlankets();
            }
        }

        private void payForNight() {
            for (int i = 0; i < hikerCount; i++) {
                paidCoins += hikers[i].payOut(PRICE_OF_A_NIGHT);
            }
        }

        private void payForLogs() {
            for (int i = 0; i < hikerCount; i++) {
                paidCoins += hikers[i].payOut(partOfLogs(i));
            }
            burnedSinceDawn = 0;
        }

        int partOfLogs(int hiker) {
            if (hikerCount < 1) {
                return 0;
            }
            int cost = PRICE_OF_A_LOG * burnedSinceDawn;
            int single = hiker < cost % hikerCount ? 1 : 0;
            return cost / hikerCount + single;
        }

        private void payForBlankets() {
            int pot = 0;
            for (int i = 0; i < hikerCount; i++) {
                pot += hikers[i].payOut(hikers[i].feeForBlanket());
            }
            int sharers = hikersWithoutBlanket();
            int part = sharers < 1 ? 0 : pot / sharers;
            for (int i = 0; i < hikerCount; i++) {
                if (hikers[i].blanket == NONE) {
                    hikers[i].coins += part;
                }
            }
            paidCoins += pot - part * sharers;
        }

        // ---- actions

        int faultOf(int command, int first, int second) {
            switch (command) {
                case TAKE:
                    return faultOfTake(first, second);
                case RETURN:
                    return faultOfReturn(first);
                case SWAP:
                    return faultOfSwap(first, second);
                case LIE:
                    return faultOfLie(first, second);
                case RISE:
                    return faultOfRise(first);
                case BURN:
                    return isWithin(first, 0, MAX_RATE) ? NO_FAULT : WRONG_ARGUMENT;
                case FETCH:
                    return faultOfFetch(first);
                case PAY:
                    return faultOfPay(first, second);
                default:
                    return faultOfPass(first);
            }
        }

        private int faultOfTake(int hiker, int blanket) {
            if (!hasHiker(hiker) || !hasBlanket(blanket)) {
                return NO_SUCH_INDEX;
            }
            return userOfBlanket(blanket) == NONE ? NO_FAULT : WRONG_STATE;
        }

        private int faultOfReturn(int hiker) {
            if (!hasHiker(hiker)) {
                return NO_SUCH_INDEX;
            }
            return hikers[hiker].blanket == NONE ? WRONG_STATE : NO_FAULT;
        }

        private int faultOfSwap(int hiker, int other) {
            if (!hasHiker(hiker) || !hasHiker(other)) {
                return NO_SUCH_INDEX;
            }
            boolean isBare = hikers[hiker].blanket == NONE && hikers[other].blanket == NONE;
            return hiker == other || isBare ? WRONG_STATE : NO_FAULT;
        }

        private int faultOfLie(int hiker, int bunk) {
            if (!hasHiker(hiker) || !hasBunk(bunk)) {
                return NO_SUCH_INDEX;
            }
            return sleeperIn(bunk) == NONE ? NO_FAULT : WRONG_STATE;
        }

        private int faultOfRise(int hiker) {
            if (!hasHiker(hiker)) {
                return NO_SUCH_INDEX;
            }
            return hikers[hiker].bunk == NONE ? WRONG_STATE : NO_FAULT;
        }

        private int faultOfFetch(int fetched) {
            if (!isWithin(fetched, 1, MAX_FETCH)) {
                return WRONG_ARGUMENT;
            }
            return logs + fetched > MAX_LOGS ? WRONG_STATE : NO_FAULT;
        }

        private int faultOfPay(int hiker, int coins) {
            if (!hasHiker(hiker)) {
                return NO_SUCH_INDEX;
            }
            if (!isWithin(coins, 1, MAX_COINS)) {
                return WRONG_ARGUMENT;
            }
            boolean isTooMuch = hikers[hiker].coins < coins || hikers[hiker].debt < coins;
            return isTooMuch ? WRONG_STATE : NO_FAULT;
        }

        private int faultOfPass(int hours) {
            if (!isWithin(hours, 1, MAX_PASS)) {
                return WRONG_ARGUMENT;
            }
            return hour + hours > LAST_HOUR ? WRONG_STATE : NO_FAULT;
        }

        /** Performs a command in which faultOf has found no fault. */
        int perform(int command, int first, int second) {
            switch (command) {
                case TAKE:
                    giveBlanket(first, second);
                    return hikers[first].warmth;
                case RETURN:
                    return giveBlanket(first, NONE);
                case SWAP:
                    exchangeBlankets(first, second);
                    return coldCount();
                case LIE:
                    moveTo(first, second);
                    return noiseAt(second);
                case RISE:
                    return moveTo(first, NONE);
                case BURN:
                    return changeRate(first);
                case FETCH:
                    return addLogs(first);
                case PAY:
                    return payBack(first, second);
                default:
                    return passTime(first);
            }
        }

        /** Gives a hiker a blanket, or with NONE takes it away, and returns the one before. */
        private int giveBlanket(int hiker, int blanket) {
            int before = hikers[hiker].blanket;
            hikers[hiker].blanket = blanket;
            measure();
            return before;
        }

        private void exchangeBlankets(int hiker, int other) {
            int blanket = hikers[hiker].blanket;
            hikers[hiker].blanket = hikers[other].blanket;
            hikers[other].blanket = blanket;
            measure();
        }

        /** Brings a hiker to a bunk, or with NONE to the table, and returns the bunk before. */
        int moveTo(int hiker, int bunk) {
            int before = hikers[hiker].bunk;
            if (hasBunk(before)) {
                sleepers[before + EDGE] = NONE;
            }
            if (hasBunk(bunk)) {
                sleepers[bunk + EDGE] = hiker;
            }
            hikers[hiker].bunk = bunk;
            measure();
            return before;
        }

        private int changeRate(int newRate) {
            int before = rate;
            rate = newRate;
            return before;
        }

        private int addLogs(int fetched) {
            logs += fetched;
            receivedLogs += fetched;
            return logs;
        }

        private int payBack(int hiker, int coins) {
            hikers[hiker].coins -= coins;
            hikers[hiker].debt -= coins;
            paidCoins += coins;
            return hikers[hiker].debt;
        }
    }

    /** Answers what would be, by trying it out on a copy of the hut. */
    private static final class Planner {
        private final Hut trial = new Hut();

        int placeForMostSleep(Hut hut, int hiker) {
            trial.copyFrom(hut);
            trial.moveTo(hiker, NONE);
            int best = NONE;
            int most = trial.countOf(SLEEPS);
            for (int bunk = 0; bunk < hut.bunkCount; bunk++) {
                if (isFreeFor(hut, hiker, bunk)) {
                    trial.moveTo(hiker, bunk);
                    int sleeping = trial.countOf(SLEEPS);
                    if (sleeping > most) {
                        most = sleeping;
                        best = bunk;
                    }
                }
            }
            return best;
        }

        int bunkForMostWarmth(Hut hut, int hiker) {
            trial.copyFrom(hut);
            int best = NONE;
            int most = 0;
            int least = 0;
            for (int bunk = 0; bunk < hut.bunkCount; bunk++) {
                if (isFreeFor(hut, hiker, bunk)) {
                    trial.moveTo(hiker, bunk);
                    int warm = trial.hikers[hiker].warmth;
                    int noise = trial.noiseAt(bunk);
                    if (best == NONE || warm > most || warm == most && noise < least) {
                        best = bunk;
                        most = warm;
                        least = noise;
                    }
                }
            }
            return best;
        }

        private static boolean isFreeFor(Hut hut, int hiker, int bunk) {
            int sleeper = hut.sleeperIn(bunk);
            return sleeper == NONE || sleeper == hiker;
        }

        int loudestDisturber(Hut hut) {
            trial.copyFrom(hut);
            int worst = NONE;
            int fewest = trial.countOf(LIES_AWAKE);
            for (int i = 0; i < hut.hikerCount; i++) {
                trial.hikers[i].snore = 0;
                trial.measure();
                int awake = trial.countOf(LIES_AWAKE);
                if (awake < fewest) {
                    fewest = awake;
                    worst = i;
                }
                trial.hikers[i].snore = hut.hikers[i].snore;
            }
            return worst;
        }

        int temperatureIn(Hut hut, int hours) {
            trial.copyFrom(hut);
            trial.passTimeUnwatched(hours);
            return trial.temperatureInside();
        }

        int shiversToDawn(Hut hut, int hiker) {
            trial.copyFrom(hut);
            trial.passTime(hut.hoursToDawn());
            return trial.hikers[hiker].hours[SHIVERS] - hut.hikers[hiker].hours[SHIVERS];
        }

        int paymentNextDawn(Hut hut, int hiker) {
            trial.copyFrom(hut);
            // The dawn itself would clear the logs that it lets the hikers pay for.
            trial.passTimeUnwatched(hut.hoursToDawn() - 1);
            trial.burnLogs();
            return PRICE_OF_A_NIGHT + trial.partOfLogs(hiker) + trial.hikers[hiker].feeForBlanket();
        }

        int debtIn(Hut hut, int hiker, int hours) {
            trial.copyFrom(hut);
            trial.passTimeUnwatched(hours);
            return trial.hikers[hiker].debt;
        }

        int dawnsToDebt(Hut hut, int hiker) {
            trial.copyFrom(hut);
            for (int dawns = 0; dawns <= FARTHEST_DAWNS; dawns++) {
                if (trial.hikers[hiker].debt > 0) {
                    return dawns;
                }
                trial.passTimeUnwatched(trial.hoursToDawn());
            }
            return NONE;
        }

        int hoursToNoLogs(Hut hut) {
            trial.copyFrom(hut);
            for (int hours = 0; hours <= FARTHEST_HOURS; hours++) {
                if (trial.logs == 0) {
                    return hours;
                }
                trial.passTimeUnwatched(1);
            }
            return NONE;
        }

        int rateWithoutShivers(Hut hut) {
            for (int rate = 0; rate <= MAX_RATE; rate++) {
                if (hoursToDawnOf(SHIVERS, hut, rate) == 0) {
                    return rate;
                }
            }
            return NONE;
        }

        int rateForMostSleep(Hut hut) {
            int best = 0;
            int most = hoursToDawnOf(SLEEPS, hut, 0);
            for (int rate = 1; rate <= MAX_RATE; rate++) {
                int slept = hoursToDawnOf(SLEEPS, hut, rate);
                if (slept > most) {
                    most = slept;
                    best = rate;
                }
            }
            return best;
        }

        private int hoursToDawnOf(int activity, Hut hut, int rate) {
            trial.copyFrom(hut);
            trial.rate = rate;
            trial.passTime(hut.hoursToDawn());
            return trial.sumOfHours(activity) - hut.sumOfHours(activity);
        }
    }

    /** The huts before the most recent actions, in a ring. */
    private static final class History {
        private final Hut[] before = newHuts(MAX_UNDO);
        private int next;
        int size;

        void keep(Hut hut) {
            before[next].copyFrom(hut);
            next = (next + 1) % MAX_UNDO;
            size = Math.min(size + 1, MAX_UNDO);
        }

        void takeBack(Hut hut) {
            next = (next + MAX_UNDO - 1) % MAX_UNDO;
            size--;
            hut.copyFrom(before[next]);
        }

        void forget() {
            size = 0;
        }
    }

    /** The text buffer, and the token of it that is being looked at. */
    private static final class Text {
        static final int END = 0;
        static final int WORD = 1;
        static final int NUMBER = 2;
        static final int SEMICOLON = 3;
        static final int BLANK = 4;
        static final int NO_TOKEN = 5;

        // Above every range of the grammar.
        private static final int HUGE = 1000;

        private final int[] bytes = new int[MAX_TEXT];
        int length;
        int kind;
        int start;
        private int end;

        boolean hasRoomFor(int count) {
            return length + count <= MAX_TEXT;
        }

        void put(int octet) {
            if (hasRoomFor(1)) {
                bytes[length] = octet & 255;
                length++;
            }
        }

        void putAll(String text) {
            for (int i = 0; i < text.length(); i++) {
                put(text.charAt(i));
            }
        }

        void readFirst() {
            end = 0;
            readNext();
        }

        void readNext() {
            start = end;
            while (start < length && kindOf(bytes[start]) == BLANK) {
                start++;
            }
            kind = start < length ? kindOf(bytes[start]) : END;
            end = start < length ? start + 1 : start;
            if (kind == WORD || kind == NUMBER) {
                while (end < length && kindOf(bytes[end]) == kind) {
                    end++;
                }
            }
        }

        private static int kindOf(int octet) {
            if ('a' <= octet && octet <= 'z') {
                return WORD;
            }
            if ('0' <= octet && octet <= '9') {
                return NUMBER;
            }
            if (octet == ';') {
                return SEMICOLON;
            }
            return octet == ' ' || octet == '\n' ? BLANK : NO_TOKEN;
        }

        /** The value of a number; one of many digits counts as HUGE, so that none overflows. */
        int value() {
            int value = 0;
            for (int i = start; i < end; i++) {
                value = Math.min(10 * value + bytes[i] - '0', HUGE);
            }
            return value;
        }

        boolean isWord(String word) {
            if (kind != WORD || end - start != word.length()) {
                return false;
            }
            for (int i = 0; i < word.length(); i++) {
                if (bytes[start + i] != word.charAt(i)) {
                    return false;
                }
            }
            return true;
        }
    }

    /** Reads the text as a setup or as a script, and keeps the error of the most recent reading. */
    private static final class Grammar {
        final Text text = new Text();
        int errorCode = NO_ERROR;
        int errorPosition = NONE;
        private int count;

        boolean readSetup(Hut hut) {
            begin();
            boolean isRight = readLogs(hut) && readBunks(hut) && readBlankets(hut)
                    && readForecast(hut) && readHikers(hut);
            if (isRight) {
                hut.open();
            }
            return isRight;
        }

        private void begin() {
            errorCode = NO_ERROR;
            errorPosition = NONE;
            text.readFirst();
        }

        private boolean fail(int code) {
            errorCode = code;
            errorPosition = text.start;
            return false;
        }

        private boolean readLogs(Hut hut) {
            if (!readWord("hut") || !isNumber(0, MAX_LOGS)) {
                return false;
            }
            hut.logs = text.value();
            text.readNext();
            return readSemicolon();
        }

        private boolean readBunks(Hut hut) {
            boolean isRight = readWord("bunks") && isNumber(0, MAX_HEIGHT)
                    && readRow(hut.heights, 0, MAX_HEIGHT);
            hut.bunkCount = count;
            return isRight;
        }

        private boolean readBlankets(Hut hut) {
            boolean isRight = readWord("blankets") && readRow(hut.thicknesses, 1, MAX_THICKNESS);
            hut.blanketCount = count;
            return isRight;
        }

        private boolean readForecast(Hut hut) {
            boolean isRight = readWord("forecast") && isNumber(0, MAX_TEMPERATURE)
                    && readRow(hut.forecast, 0, MAX_TEMPERATURE);
            hut.forecastCount = count;
            return isRight;
        }

        /** Reads numbers up to a semicolon, and leaves in count how many there were. */
        private boolean readRow(int[] row, int low, int high) {
            count = 0;
            for (int i = 0; i <= row.length && text.kind == Text.NUMBER; i++) {
                if (!isNumber(low, high)) {
                    return false;
                }
                if (i >= row.length) {
                    return fail(TOO_MANY);
                }
                row[i] = text.value();
                count = i + 1;
                text.readNext();
            }
            return readSemicolon();
        }

        private boolean readHikers(Hut hut) {
            for (int i = 0; i <= MAX_HIKERS; i++) {
                if (i > 0 && text.kind == Text.END) {
                    hut.hikerCount = i;
                    return true;
                }
                if (!text.isWord("hiker")) {
                    return fail(NOT_ALLOWED);
                }
                if (i >= MAX_HIKERS) {
                    return fail(TOO_MANY);
                }
                text.readNext();
                if (!readHiker(hut.hikers[i])) {
                    return false;
                }
            }
            return false;
        }

        private boolean readHiker(Hiker hiker) {
            if (!isNumber(1, MAX_NEED)) {
                return false;
            }
            hiker.need = text.value();
            text.readNext();
            if (!isNumber(0, MAX_SNORE)) {
                return false;
            }
            hiker.snore = text.value();
            text.readNext();
            if (!isNumber(0, MAX_COINS)) {
                return false;
            }
            hiker.coins = text.value();
            text.readNext();
            return readSemicolon();
        }

        private boolean readWord(String word) {
            if (!text.isWord(word)) {
                return fail(NOT_ALLOWED);
            }
            text.readNext();
            return true;
        }

        private boolean readSemicolon() {
            if (text.kind != Text.SEMICOLON) {
                return fail(NOT_ALLOWED);
            }
            text.readNext();
            return true;
        }

        /** Tests the token without going past it; not being such a number is an error. */
        private boolean isNumber(int low, int high) {
            if (text.kind != Text.NUMBER) {
                return fail(NOT_ALLOWED);
            }
            return isWithin(text.value(), low, high) || fail(OUT_OF_RANGE);
        }

        boolean readScript(Script script) {
            begin();
            for (int i = 0; i <= MAX_COMMANDS; i++) {
                script.count = i;
                if (text.kind == Text.END) {
                    return true;
                }
                int command = commandOfWord();
                if (command == NONE) {
                    return fail(NOT_ALLOWED);
                }
                if (i >= MAX_COMMANDS) {
                    return fail(TOO_MANY);
                }
                text.readNext();
                script.commands[i] = command;
                if (!readArguments(script, i) || !readSemicolon()) {
                    return false;
                }
            }
            return false;
        }

        private int commandOfWord() {
            if (text.isWord("take")) {
                return TAKE;
            }
            if (text.isWord("return")) {
                return RETURN;
            }
            if (text.isWord("swap")) {
                return SWAP;
            }
            if (text.isWord("lie")) {
                return LIE;
            }
            if (text.isWord("rise")) {
                return RISE;
            }
            if (text.isWord("burn")) {
                return BURN;
            }
            if (text.isWord("fetch")) {
                return FETCH;
            }
            if (text.isWord("pay")) {
                return PAY;
            }
            return text.isWord("pass") ? PASS : NONE;
        }

        private boolean readArguments(Script script, int i) {
            switch (script.commands[i]) {
                case TAKE:
                    return readHikerAnd(script, i, 0, MAX_BLANKETS - 1);
                case SWAP:
                    return readHikerAnd(script, i, 0, MAX_HIKERS - 1);
                case LIE:
                    return readHikerAnd(script, i, 0, MAX_BUNKS - 1);
                case PAY:
                    return readHikerAnd(script, i, 1, MAX_COINS);
                case BURN:
                    return readInto(script.firsts, i, 0, MAX_RATE);
                case FETCH:
                    return readInto(script.firsts, i, 1, MAX_FETCH);
                case PASS:
                    return readInto(script.firsts, i, 1, MAX_PASS);
                default:
                    return readInto(script.firsts, i, 0, MAX_HIKERS - 1);
            }
        }

        private boolean readHikerAnd(Script script, int i, int low, int high) {
            return readInto(script.firsts, i, 0, MAX_HIKERS - 1) && readInto(script.seconds, i, low, high);
        }

        private boolean readInto(int[] row, int i, int low, int high) {
            if (!isNumber(low, high)) {
                return false;
            }
            row[i] = text.value();
            text.readNext();
            return true;
        }
    }

    /** The commands of a script that has been read. */
    private static final class Script {
        final int[] commands = new int[MAX_COMMANDS];
        final int[] firsts = new int[MAX_COMMANDS];
        final int[] seconds = new int[MAX_COMMANDS];
        int count;
    }

    /** The output buffer. */
    private static final class Output {
        private static final int LARGEST_UNIT = 1000000000;

        final int[] bytes = new int[MAX_OUTPUT];
        int length;

        void clear() {
            length = 0;
        }

        void put(int octet) {
            if (length < bytes.length) {
                bytes[length] = octet;
                length++;
            }
        }

        void putNumber(int number) {
            for (int unit = LARGEST_UNIT; unit >= 1; unit /= 10) {
                if (number >= unit || unit == 1) {
                    put('0' + number / unit % 10);
                }
            }
        }
    }
}
