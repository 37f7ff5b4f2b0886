import java.util.function.Consumer;
import java.util.function.Supplier;

/** The edges of promises 51 to 65: actions, the output, undo and snapshots. */
final class ActionEdges {
    private static final int NONE = HutLedger.NONE;
    private static final String DEBTOR = "hut 0;bunks 0;blankets 9 9;forecast 1;hiker 1 0 0;hiker 1 0 9;hiker 1 0 9;";

    private final Edges e;

    ActionEdges(Edges e) {
        this.e = e;
    }

    void run() {
        takeBlanket();
        returnBlanket();
        swapBlankets();
        lieDown();
        getUp();
        setRate();
        fetchLogs();
        payDebt();
        payMuch();
        passHours();
        passHoursToTheEnd();
        writeBunks();
        writeLedger();
        outputByte();
        onlyTheWritersWrite();
        undo();
        undoLeavesTheRest();
        saveSnapshot();
        restoreSnapshot();
        manyCalls();
    }

    // ---- blankets

    private void takeBlanket() {
        e.of(51, "- `hiker`: number of a hiker", "- `blanket`: number of a blanket",
                "Throws `IndexOutOfBoundsException` if there is no such hiker or blanket");
        e.hikerEdges("takeBlanket(.., 0)", (x, hiker) -> x.takeBlanket(hiker, 0));
        e.blanketEdges("takeBlanket(0, ..)", (x, blanket) -> x.takeBlanket(0, blanket));
        e.refused("takeBlanket(10, 12)", Edges.INDEX, Edges.CROWD_LIVED, x -> x.takeBlanket(10, 12));
        e.refused("takeBlanket(10, 11)", Edges.INDEX, Edges.CROWD_LIVED, x -> x.takeBlanket(10, 11));
        e.of(51, "Throws `IllegalStateException` if the blanket does not lie on the pile");
        e.refused("the own one", Edges.STATE, Edges.CROWD_LIVED, x -> x.takeBlanket(0, 0));
        e.refused("another's, with an own one", Edges.STATE, Edges.CROWD_LIVED, x -> x.takeBlanket(0, 11));
        e.refused("another's, without one", Edges.STATE, Edges.CROWD_LIVED, x -> x.takeBlanket(5, 11));
        e.of(51, "Lets a hiker take a blanket from the pile", "A blanket that the hiker used before comes to the pile",
                "Returns the warmth of the hiker after the call");
        HutLedger x = Checks.hut("hut 0;bunks 0 2;blankets 1 9;forecast 0;hiker 1 0 0;hiker 1 0 0;");
        e.same("the thinnest", 1, x.takeBlanket(0, 0));
        e.same("the thickest", 9, x.takeBlanket(0, 1));
        e.same("the one before", NONE, x.userOf(0));
        e.same("pileSize", 1, x.pileSize());
        e.same("for the other hiker", 1, x.takeBlanket(1, 0));
        e.same("pileSize", 0, x.pileSize());
        HutLedger lying = Edges.hut("hut 9;bunks 0 2;blankets 9;forecast 5;hiker 1 0 0;hiker 1 0 0;", "lie 0 0;lie 1 1;burn 1;pass 1;");
        e.same("all that warms", 5 + 4 + 2 + 1 + 9, lying.takeBlanket(1, 0));
    }

    private void returnBlanket() {
        e.hikerEdges(52, "returnBlanket", HutLedger::returnBlanket);
        e.of(52, "Throws `IllegalStateException` if the hiker uses no blanket");
        e.refused("returnBlanket(1)", Edges.STATE, Edges.CROWD_LIVED, x -> x.returnBlanket(1));
        e.refused("returnBlanket(8)", Edges.STATE, Edges.CROWD_LIVED, x -> x.returnBlanket(8));
        Supplier<HutLedger> returned = Edges.lived(Edges.CROWD, "take 0 0;return 0;");
        e.refused("twice", Edges.STATE, returned, x -> x.returnBlanket(0));
        e.of(52, "Lets a hiker return the blanket to the pile", "Returns the number of the blanket");
        HutLedger x = Edges.hut(Edges.CROWD, "take 0 11;take 9 0;");
        e.same("the last one", 11, x.returnBlanket(0));
        e.same("the first one", 0, x.returnBlanket(9));
        e.same("pileSize", 12, x.pileSize());
        e.same("warmth", 6, x.warmth(9));
    }

    private void swapBlankets() {
        e.of(53, "- `hiker`: number of a hiker", "- `other`: number of a hiker",
                "Throws `IndexOutOfBoundsException` if there are no such hikers");
        e.hikerEdges("swapBlankets(.., 0)", (x, hiker) -> x.swapBlankets(hiker, 0));
        e.hikerEdges("swapBlankets(0, ..)", (x, hiker) -> x.swapBlankets(0, hiker));
        e.refused("both are not there", Edges.INDEX, Edges.CROWD_LIVED, x -> x.swapBlankets(10, 10));
        e.refused("both are not there", Edges.INDEX, Edges.CROWD_LIVED, x -> x.swapBlankets(-1, 10));
        e.of(53, "Throws `IllegalStateException` if both are the same, or if none of them uses a blanket");
        e.refused("the same, with a blanket", Edges.STATE, Edges.CROWD_LIVED, x -> x.swapBlankets(0, 0));
        e.refused("the same, without one", Edges.STATE, Edges.CROWD_LIVED, x -> x.swapBlankets(1, 1));
        e.refused("none uses one", Edges.STATE, Edges.CROWD_LIVED, x -> x.swapBlankets(1, 2));
        e.refused("one hiker alone", Edges.STATE, Edges.LONE_LIVED, x -> x.swapBlankets(0, 0));
        e.of(53, "Lets two hikers exchange their blankets", "Returns the number of hikers who are cold after the call");
        HutLedger x = Edges.hut("hut 0;bunks 0;blankets 4 3;forecast 9;hiker 9 0 0;hiker 13 0 0;hiker 30 0 0;", "take 0 0;");
        e.same("the second has none", 1, x.swapBlankets(0, 1));
        e.same("blanketOf", NONE, x.blanketOf(0));
        e.same("blanketOf", 0, x.blanketOf(1));
        e.same("the first has none", 2, x.swapBlankets(0, 1));
        x.takeBlanket(1, 1);
        e.same("both have one", 1, x.swapBlankets(1, 0));
        e.same("blanketOf", 1, x.blanketOf(0));
        e.same("blanketOf", 0, x.blanketOf(1));
        HutLedger warm = Edges.hut("hut 0;bunks 0;blankets 4;forecast 9;hiker 9 0 0;hiker 13 0 0;", "take 0 0;");
        e.same("nobody is cold", 0, warm.swapBlankets(1, 0));
    }

    // ---- bunks

    private void lieDown() {
        e.of(54, "- `hiker`: number of a hiker", "- `bunk`: number of a bunk",
                "Throws `IndexOutOfBoundsException` if there is no such hiker or bunk");
        e.hikerEdges("lieDown(.., 0)", (x, hiker) -> x.lieDown(hiker, 0));
        e.bunkEdges("lieDown(0, ..)", (x, bunk) -> x.lieDown(0, bunk));
        e.refused("lieDown(10, 12)", Edges.INDEX, Edges.CROWD_LIVED, x -> x.lieDown(10, 12));
        e.refused("lieDown(10, 11)", Edges.INDEX, Edges.CROWD_LIVED, x -> x.lieDown(10, 11));
        e.of(54, "Throws `IllegalStateException` if the bunk is not empty");
        e.refused("the own bunk", Edges.STATE, Edges.CROWD_LIVED, x -> x.lieDown(0, 0));
        e.refused("the last bunk, from the first", Edges.STATE, Edges.CROWD_LIVED, x -> x.lieDown(0, 11));
        e.refused("the last bunk, from the table", Edges.STATE, Edges.CROWD_LIVED, x -> x.lieDown(5, 11));
        e.of(54, "Lets a hiker lie down in an empty bunk", "Returns the noise in this bunk after the call");
        HutLedger x = Checks.hut("hut 0;bunks 0 0 0 0;blankets;forecast 9;hiker 1 5 0;hiker 10 7 0;hiker 1 4 0;");
        e.same("alone", 0, x.lieDown(0, 0));
        e.same("another bunk", 0, x.lieDown(0, 3));
        e.same("the one before", NONE, x.hikerIn(0));
        e.same("a cold one, two bunks away", 5 / 2, x.lieDown(1, 1));
        e.same("the cold one is warmed and snores", 7 + 5, x.lieDown(2, 2));
        e.same("noiseIn", 12, x.noiseIn(2));
        x.getUp(2);
        e.same("beside the cold one", 7 + 0, x.lieDown(2, 0));
        HutLedger own = Checks.hut("hut 0;bunks 0 0 0;blankets;forecast 9;hiker 1 9 0;");
        e.same("the snore left behind is not heard", 0, own.lieDown(0, 0) + own.lieDown(0, 1) + own.lieDown(0, 2));
    }

    private void getUp() {
        e.hikerEdges(55, "getUp", HutLedger::getUp);
        e.of(55, "Throws `IllegalStateException` if the hiker lies in no bunk");
        e.refused("getUp(2)", Edges.STATE, Edges.CROWD_LIVED, x -> x.getUp(2));
        Supplier<HutLedger> up = Edges.lived(Edges.CROWD, "lie 0 0;rise 0;");
        e.refused("twice", Edges.STATE, up, x -> x.getUp(0));
        e.of(55, "Lets a hiker get up and sit at the table", "Returns the number of the bunk");
        HutLedger x = Edges.hut(Edges.CROWD, "lie 0 11;lie 9 0;");
        e.same("the last one", 11, x.getUp(0));
        e.same("the first one", 0, x.getUp(9));
        e.same("bunkOf", NONE, x.bunkOf(0));
        e.same("hikerIn", NONE, x.hikerIn(11));
    }

    // ---- stove and coins

    private void setRate() {
        e.of(56, "- `rate`: 0 to 3", "Throws `IllegalArgumentException` if rate is out of range");
        e.argumentEdges("setRate", 0, 3, Edges.LONE_LIVED, HutLedger::setRate);
        e.argumentEdges("setRate", 0, 3, Edges.CROWD_LIVED, HutLedger::setRate);
        e.of(56, "Sets the rate of the stove", "Returns the previous rate");
        HutLedger x = new HutLedger();
        int before = 0;
        for (int rate : new int[] {0, 3, 3, 0, 1, 2, 0}) {
            e.same("setRate(" + rate + ")", before, x.setRate(rate));
            before = rate;
        }
    }

    private void fetchLogs() {
        e.of(57, "- `logs`: 1 to 50", "Throws `IllegalArgumentException` if logs is out of range");
        e.argumentEdges("fetchLogs", 1, 50, Edges.LONE_LIVED, HutLedger::fetchLogs);
        Supplier<HutLedger> full = Edges.lived(Edges.LONE, "fetch 50;fetch 44;");
        for (int logs : new int[] {Integer.MIN_VALUE, -1, 0, 51, 99, 100, Integer.MAX_VALUE}) {
            e.refused("fetchLogs(" + logs + ") into a full hut", Edges.ARGUMENT, full, x -> x.fetchLogs(logs));
        }
        e.of(57, "Throws `IllegalStateException` if there would be more than 99 logs");
        for (int logs : new int[] {1, 2, 50}) {
            e.refused("fetchLogs(" + logs + ") into a full hut", Edges.STATE, full, x -> x.fetchLogs(logs));
        }
        for (int logs = 49; logs <= 99; logs++) {
            Supplier<HutLedger> made = Edges.lived("hut " + logs + ";bunks 0;blankets;forecast 0;hiker 1 0 0;", "");
            int room = 99 - logs;
            e.refused("one too many", room < 50 ? Edges.STATE : Edges.ARGUMENT, made, x -> x.fetchLogs(room + 1));
            if (room > 0) {
                e.same("fetchLogs(" + room + ")", 99, made.get().fetchLogs(room));
            }
        }
        e.of(57, "Fetches logs", "Returns the logs in the hut after the call");
        HutLedger x = Checks.hut("hut 0;bunks 0;blankets;forecast 0;hiker 1 0 0;");
        e.same("one", 1, x.fetchLogs(1));
        e.same("fifty more", 51, x.fetchLogs(50));
        e.same("up to 98", 98, x.fetchLogs(47));
        e.same("up to 99", 99, x.fetchLogs(1));
    }

    private void payDebt() {
        e.of(58, "Throws `IllegalStateException` if the hiker has fewer coins, or if the debt is smaller");
        // At the dawn hiker 0 owes 3 and gets the pot of 6; hikers 1 and 2 have 3 coins and no debt.
        Supplier<HutLedger> rich = Edges.lived(DEBTOR, "take 1 0;take 2 1;pass 8;");
        e.same("coins", "a=6-3/0 b=3/0 c=3/0", Checks.ledger(rich.get()).replaceAll("/\\d+", "/0"));
        e.refused("the debt is smaller", Edges.STATE, rich, x -> x.payDebt(0, 4));
        e.refused("more than the coins", Edges.STATE, rich, x -> x.payDebt(0, 7));
        e.refused("the most", Edges.STATE, rich, x -> x.payDebt(0, 99));
        e.refused("no debt", Edges.STATE, rich, x -> x.payDebt(1, 1));
        e.refused("no debt any more", Edges.STATE, Edges.lived(DEBTOR, "take 1 0;take 2 1;pass 8;pay 0 3;"), x -> x.payDebt(0, 1));
        // Here hiker 0 owes 3 and gets 1 of the pot of 3.
        Supplier<HutLedger> poor = Edges.lived(DEBTOR, "take 1 0;pass 8;");
        e.refused("fewer coins", Edges.STATE, poor, x -> x.payDebt(0, 2));
        e.refused("fewer coins than all of the debt", Edges.STATE, poor, x -> x.payDebt(0, 3));
        e.same("the only coin", 2, poor.get().payDebt(0, 1));
        e.of(58, "Lets a hiker pay a part of the debt to the hut", "Returns the debt after the call");
        HutLedger x = rich.get();
        e.same("a part", 2, x.payDebt(0, 1));
        e.same("coinsOf", 5, x.coinsOf(0));
        e.same("debtOf", 2, x.debtOf(0));
        e.same("the rest", 0, x.payDebt(0, 2));
        e.same("coinsOf", 3, x.coinsOf(0));
        e.same("hutCoins", 6 + 3, x.hutCoins());
        HutLedger last = Edges.hut("hut 0;bunks 0;blankets 9;forecast 1;hiker 1 0 0;hiker 1 0 9;", "take 1 0;pass 8;");
        e.same("all coins for all of the debt", 0, last.payDebt(0, 3));
        e.same("coinsOf", 0, last.coinsOf(0));
        e.hikerEdges(58, "payDebt", (one, hiker) -> one.payDebt(hiker, 1));
    }

    /**
     * Hiker 0 has 102 coins and a debt of 105: for 17 dawns the others keep the pot from this hiker, who uses a
     * blanket and has no coins; then for 11 dawns four who kept their coins put 12 into the pot for this hiker alone.
     */
    private static HutLedger richDebtor() {
        HutLedger x = Edges.hut("hut 0;bunks 0;blankets" + " 9".repeat(12) + ";forecast 1;hiker 1 0 0;" + "hiker 1 0 99;".repeat(9),
                "take 0 0;take 5 1;take 6 2;take 7 3;take 8 4;take 9 5;pass 48;pass 48;pass 40;");
        return Edges.after(x, "return 0;take 1 6;take 2 7;take 3 8;take 4 9;pass 48;pass 40;");
    }

    private void payMuch() {
        e.of(58, "- `coins`: 1 to 99", "Throws `IllegalArgumentException` if coins is out of range");
        e.same("coins of the rich debtor", 102, richDebtor().coinsOf(0));
        e.same("debt of the rich debtor", 105, richDebtor().debtOf(0));
        e.argumentEdges("payDebt(0, ..)", 1, 99, ActionEdges::richDebtor, (x, coins) -> x.payDebt(0, coins));
        e.refused("payDebt(0, 100)", Edges.ARGUMENT, ActionEdges::richDebtor, x -> x.payDebt(0, 100));
        e.refused("payDebt(9, 0), who has no coins", Edges.ARGUMENT, ActionEdges::richDebtor, x -> x.payDebt(9, 0));
        e.refused("payDebt(9, 100), who has no coins", Edges.ARGUMENT, ActionEdges::richDebtor, x -> x.payDebt(9, 100));
        e.refused("payDebt(10, 0)", Edges.INDEX, ActionEdges::richDebtor, x -> x.payDebt(10, 0));
        e.refused("payDebt(-1, 100)", Edges.INDEX, ActionEdges::richDebtor, x -> x.payDebt(-1, 100));
        e.of(58, "Throws `IllegalStateException` if the hiker has fewer coins, or if the debt is smaller");
        HutLedger x = richDebtor();
        e.same("99 at once", 6, x.payDebt(0, 99));
        e.same("three are left", 3, x.coinsOf(0));
        e.same("fewer coins than the debt", Edges.STATE.getName(), Checks.thrownBy(() -> x.payDebt(0, 4)));
        e.same("the last three coins", 3, x.payDebt(0, 3));
        e.same("no coins", Edges.STATE.getName(), Checks.thrownBy(() -> x.payDebt(0, 1)));
    }

    private void passHours() {
        e.of(59, "- `hours`: the number of hours, 1 to 48", "Throws `IllegalArgumentException` if hours is out of range");
        e.argumentEdges("passHours", 1, 48, Edges.LONE_LIVED, HutLedger::passHours);
        e.argumentEdges("passHours", 1, 48, Edges.CROWD_LIVED, HutLedger::passHours);
        for (int hours : new int[] {Integer.MIN_VALUE, -1, 0, 49, Integer.MAX_VALUE}) {
            e.refused("passHours(" + hours + ") at 9999", Edges.ARGUMENT, Edges::old, x -> x.passHours(hours));
        }
        e.of(59, "Lets hours pass, one after the other", "Returns the coins that the hut got in these hours");
        String setup = "hut 0;bunks 0;blankets 9;forecast 1;hiker 1 0 20;hiker 1 0 20;";
        HutLedger x = Edges.hut(setup, "take 0 0;");
        e.same("no dawn", 0, x.passHours(7));
        e.same("a dawn, the pot to another hiker", 6, x.passHours(1));
        e.same("no dawn", 0, x.passHours(1));
        e.same("two dawns", 12, x.passHours(15));
        e.same("coinsOf(0)", 20 - 18, x.coinsOf(0));
        e.same("six dawns, of which one pays no more than 2 coins", 2 + 3 * 6, x.passHours(48));
        HutLedger all = Edges.hut("hut 0;bunks 0;blankets 9;forecast 1;hiker 1 0 20;", "take 0 0;");
        e.same("with the whole pot", 6, all.passHours(8));
        e.same("six dawns, until the coins end", 14, all.passHours(48));
        e.same("debts are no coins", 0, all.passHours(48));
        for (int hours = 1; hours <= 48; hours++) {
            HutLedger once = Edges.hut(Edges.CROWD, "lie 0 0;take 0 8;burn 2;");
            HutLedger oneByOne = Edges.hut(Edges.CROWD, "lie 0 0;take 0 8;burn 2;");
            int coins = 0;
            for (int i = 0; i < hours; i++) {
                coins += oneByOne.passHours(1);
            }
            e.same("coins of " + hours, coins, once.passHours(hours));
            e.same("ledger of " + hours, Checks.ledger(oneByOne), Checks.ledger(once));
            e.same("temperature of " + hours, oneByOne.temperature(), once.temperature());
        }
    }

    private static HutLedger atHour(int hour) {
        HutLedger x = new HutLedger();
        for (int i = hour; i > 0; i -= 48) {
            x.passHours(Math.min(48, i));
        }
        return x;
    }

    private void passHoursToTheEnd() {
        e.of(59, "Throws `IllegalStateException` if the hour would exceed 9999");
        for (int hours : new int[] {1, 2, 7, 8, 47, 48}) {
            HutLedger x = atHour(9999 - hours);
            x.passHours(hours);
            e.same("passHours(" + hours + ") up to the last hour", 9999, x.hour());
            e.refused("passHours(" + hours + ") at 9999", Edges.STATE, Edges::old, one -> one.passHours(hours));
            e.refused("passHours(" + hours + ") to 10000", Edges.STATE, () -> atHour(10000 - hours), one -> one.passHours(hours));
        }
        HutLedger x = Edges.old();
        x.undo();
        e.same("undo leads back", 9984, x.hour());
        x.passHours(15);
        e.same("and on again", 9999, x.hour());
        Checks.type(x, Edges.FIRST);
        x.loadSetup();
        x.passHours(48);
        e.same("a new setup begins anew", 48, x.hour());
    }

    // ---- output

    private void writeBunks() {
        e.of(60, "For each bunk, by increasing number, it writes a hyphen (byte 45) if it is empty",
                "One space (byte 32) separates two bunks");
        e.same("one empty bunk", "-", Checks.bunks(Checks.hut(Edges.LONE)));
        e.same("twelve empty bunks", "- - - - - - - - - - - -", Checks.bunks(Checks.hut(Edges.CROWD)));
        for (int i = 0; i < 10; i++) {
            HutLedger x = Checks.hut("hut 0;bunks 0;blankets 1 2 3 4 5 6 7 8 9;forecast 9;" + "hiker 1 0 0;".repeat(10));
            x.lieDown(i, 0);
            String letter = "" + (char) (97 + i);
            e.same("the letter alone", letter, Checks.bunks(x));
            for (int blanket = 0; blanket < 9; blanket++) {
                x.takeBlanket(i, blanket);
                e.same("with a thickness", letter + (1 + blanket), Checks.bunks(x));
            }
        }
        String bunks = "hut 0;bunks 0 0 0;blankets 9;forecast 9;hiker 10 0 0;";
        e.same("cold", "a! - -", Checks.bunks(Edges.hut(bunks, "lie 0 0;")));
        e.same("not cold", "a9 - -", Checks.bunks(Edges.hut(bunks, "lie 0 0;take 0 0;")));
        e.same("noise 6", "a b -", Checks.bunks(Edges.hut(bunks + "hiker 1 6 0;", "lie 0 0;lie 1 1;")));
        e.same("noise 7", "a? b -", Checks.bunks(Edges.hut(bunks + "hiker 1 7 0;", "lie 0 0;lie 1 1;")));
        e.same("a blanket and noise 7", "a9? b -", Checks.bunks(Edges.hut(bunks + "hiker 1 7 0;", "lie 0 0;lie 1 1;take 0 0;")));
        e.same("cold in any noise", "- b a9!", Checks.bunks(Edges.hut(bunks.replace("10", "30") + "hiker 1 9 0;", "lie 0 2;lie 1 1;take 0 0;")));
        e.of(60, "Writes the bunks into the output buffer, which is replaced", "Returns the length of the output in bytes");
        HutLedger x = Checks.hut("hut 0;bunks" + " 0".repeat(12) + ";blankets" + " 1".repeat(12) + ";forecast 9;" + "hiker 30 0 0;".repeat(10));
        e.same("all are empty", 23, x.writeBunks());
        for (int i = 0; i < 10; i++) {
            x.takeBlanket(i, i);
            x.lieDown(i, i);
        }
        e.same("the longest", 10 * 3 + 2 + 11, x.writeBunks());
        e.same("the longest", "a1! b1! c1! d1! e1! f1! g1! h1! i1! j1! - -", Checks.output(x, 43));
        e.same("outputByte(43)", NONE, x.outputByte(43));
        Checks.type(x, Edges.LONE);
        x.loadSetup();
        e.same("the shortest", 1, x.writeBunks());
        e.same("outputByte(0)", '-', x.outputByte(0));
        e.same("outputByte(1)", NONE, x.outputByte(1));
    }

    private void writeLedger() {
        e.of(61, "For each hiker, by increasing number: the letter (as in writeBunks), an equals sign (byte 61)");
        HutLedger x = Checks.hut("hut 0;bunks 0;blankets;forecast 9;hiker 1 0 0;hiker 1 0 9;hiker 1 0 10;hiker 1 0 99;");
        e.same("at first", "a=0/0 b=9/0 c=10/0 d=99/0", Checks.ledger(x));
        x.lieDown(1, 0);
        x.passHours(9);
        e.same("a debt of one digit", "a=0-3/0 b=6/9 c=7/0 d=96/0", Checks.ledger(x));
        x.passHours(1);
        e.same("ten hours of sleep", "a=0-3/0 b=6/10 c=7/0 d=96/0", Checks.ledger(x));
        x.passHours(30);
        e.same("a debt of two digits", "a=0-15/0 b=0-6/40 c=0-5/0 d=84/0", Checks.ledger(x));
        e.same("a debt of four digits", "a=0-3735/0 b=0-3742/0 c=0-3717/0 d=0-3746/0",
                Checks.ledger(Edges.old()).replaceAll("/\\d+", "/0"));
        e.of(61, "Writes the ledger into the output buffer, which is replaced", "Returns the length of the output in bytes");
        e.same("the shortest", 5, Checks.hut(Edges.LONE).writeLedger());
        HutLedger ten = Checks.hut("hut 0;bunks 0;blankets;forecast 9;" + "hiker 1 0 99;".repeat(10));
        e.same("of ten", 69, ten.writeLedger());
        e.same("of ten", "a=99/0 b=99/0 c=99/0 d=99/0 e=99/0 f=99/0 g=99/0 h=99/0 i=99/0 j=99/0", Checks.output(ten, 69));
        e.same("outputByte(69)", NONE, ten.outputByte(69));
        ten.writeBunks();
        e.same("replaced", NONE, ten.outputByte(1));
        HutLedger slept = Edges.hut("hut 0;bunks 0;blankets;forecast 9;hiker 1 0 0;", "lie 0 0;");
        for (int i = 0; i < 208; i++) {
            slept.passHours(48);
        }
        slept.passHours(15);
        e.same("four digits of each", "a=0-3747/9999", Checks.ledger(slept));
    }

    private void outputByte() {
        e.of(62, "- `index`: 0 for the first byte", "Returns the byte; NONE if there is no such byte");
        int[] strange = {Integer.MIN_VALUE, -1, 5, 6, 399, 400, 500, Integer.MAX_VALUE};
        HutLedger x = Checks.hut(Edges.LONE);
        e.same("nothing is written", NONE, x.outputByte(0));
        for (int index : strange) {
            e.same("nothing is written", NONE, x.outputByte(index));
        }
        e.same("writeLedger", 5, x.writeLedger());
        int[] bytes = {97, 61, 48, 47, 48};
        for (int index = 0; index < 5; index++) {
            e.same("outputByte(" + index + ")", bytes[index], x.outputByte(index));
        }
        for (int index : strange) {
            e.same("outputByte(" + index + ")", NONE, x.outputByte(index));
        }
        e.of(62, "Returns a byte of the output buffer");
        e.onlyAsks("outputByte", Edges.CROWD_LIVED, one -> one.outputByte(0));
        HutLedger signs = Edges.hut("hut 0;bunks 0 0 0;blankets 9;forecast 9;hiker 10 0 0;hiker 1 9 0;", "lie 0 0;lie 1 1;");
        e.same("writeBunks", 6, signs.writeBunks());
        int[] due = {97, 63, 32, 98, 32, 45, NONE};
        for (int index = 0; index < due.length; index++) {
            e.same("outputByte(" + index + ")", due[index], signs.outputByte(index));
        }
        signs.getUp(1);
        signs.writeBunks();
        e.same("an exclamation mark", 33, signs.outputByte(1));
        signs.passHours(8);
        signs.writeLedger();
        e.same("a hyphen before the debt", 45, signs.outputByte(3));
    }

    private void onlyTheWritersWrite() {
        e.of(62, "Only writeBunks and writeLedger change the output buffer");
        HutLedger x = Edges.CROWD_LIVED.get();
        int length = x.writeLedger();
        String due = Checks.output(x, length);
        x.truncateText(0);
        x.takeBlanket(1, 5);
        x.returnBlanket(1);
        x.swapBlankets(0, 1);
        x.lieDown(5, 5);
        x.getUp(5);
        x.setRate(3);
        x.fetchLogs(1);
        x.passHours(48);
        e.same("after actions", due, Checks.output(x, length));
        x.undo();
        x.saveSnapshot(1);
        x.restoreSnapshot(0);
        Checks.script(x, "lie 5 5;pass 8;");
        Checks.script(x, "lie 5 55;");
        Checks.type(x, Edges.LONE);
        x.loadSetup();
        x.loadSetup();
        Checks.thrownBy(() -> x.hikerIn(12));
        Checks.thrownBy(() -> x.takeBlanket(-1, -1));
        e.same("after texts, undo and snapshots", due, Checks.output(x, length));
        e.same("its end", NONE, x.outputByte(length));
    }

    // ---- undo and snapshots

    private void undo() {
        e.of(63, "Throws `IllegalStateException` if no action can be undone");
        e.refused("a new object", Edges.STATE, HutLedger::new, HutLedger::undo);
        e.refused("a new setup", Edges.STATE, Edges.lived(Edges.CROWD, ""), HutLedger::undo);
        e.refused("all is undone", Edges.STATE, () -> undone(1), HutLedger::undo);
        e.refused("six of seven are undone", Edges.STATE, () -> undone(7), HutLedger::undo);
        e.refused("a snapshot", Edges.STATE, () -> {
            HutLedger x = Edges.CROWD_LIVED.get();
            x.restoreSnapshot(0);
            return x;
        }, HutLedger::undo);
        e.of(63, "Undoes the most recent action that has not been undone", "Returns the number of actions that can still be undone");
        HutLedger x = Checks.hut(Edges.LONE);
        for (int logs = 1; logs <= 6; logs++) {
            x.fetchLogs(logs);
        }
        e.same("five are left", 5, x.undo());
        e.same("four are left", 4, x.undo());
        e.same("logs", 5 + 10, x.logs());
        x.fetchLogs(20);
        e.same("the new one, then four", 4, x.undo());
        e.same("logs", 15, x.logs());
        x.fetchLogs(21);
        x.fetchLogs(22);
        x.fetchLogs(23);
        e.same("seven, of which six can be undone", 5, x.undo());
        for (int left = 4; left >= 0; left--) {
            e.same("undo", left, x.undo());
        }
        e.same("the first cannot be undone", 5 + 1, x.logs());
        e.same("undo", Edges.STATE.getName(), Checks.thrownBy(x::undo));
        x.setRate(0);
        e.same("a new one can", 0, x.undo());
    }

    /** An object on which so many actions were done, and undone as far as can be. */
    private static HutLedger undone(int actions) {
        HutLedger x = Edges.lived(Edges.CROWD, "").get();
        for (int i = 0; i < actions; i++) {
            x.fetchLogs(1);
        }
        for (int i = 0; i < Math.min(actions, 6); i++) {
            x.undo();
        }
        return x;
    }

    private void undoLeavesTheRest() {
        e.of(63, "The text buffer, the reported error, the output buffer and the snapshots do not change");
        HutLedger x = Edges.LONE_LIVED.get();
        HutLedger due = Edges.LONE_LIVED.get();
        x.fetchLogs(9);
        x.undo();
        e.same("all of it", Portrait.of(due), Portrait.of(x));
        HutLedger y = new HutLedger();
        y.setRate(1);
        Checks.script(y, "x");
        y.saveSnapshot(0);
        y.writeLedger();
        Checks.type(y, "burn 3;");
        y.undo();
        e.same("errorCode", 1, y.errorCode());
        e.same("errorPosition", 0, y.errorPosition());
        e.same("outputByte(24)", 48, y.outputByte(24));
        e.same("the text", 1, y.runScript());
        y.restoreSnapshot(0);
        e.same("the snapshot", 1, y.setRate(0));
        HutLedger z = new HutLedger();
        Checks.script(z, "burn 9;");
        z.setRate(1);
        Checks.script(z, "burn 2;");
        z.undo();
        e.same("the error of the text, not of the time before", 0, z.errorCode());
        e.same("the error of the text, not of the time before", NONE, z.errorPosition());
    }

    private void saveSnapshot() {
        e.of(64, "- `number`: 0 or 1", "Throws `IllegalArgumentException` if number is out of range");
        e.argumentEdges("saveSnapshot", 0, 1, Edges.LONE_LIVED, HutLedger::saveSnapshot);
        e.argumentEdges("saveSnapshot", 0, 1, HutLedger::new, HutLedger::saveSnapshot);
        e.of(64, "This is not an action");
        for (int number = 0; number <= 1; number++) {
            HutLedger x = Edges.hut(Edges.LONE, "fetch 1;fetch 2;");
            x.saveSnapshot(number);
            e.same("undo", 1, x.undo());
            x.saveSnapshot(number);
            e.same("undo", 0, x.undo());
            x.saveSnapshot(number);
            e.same("undo", Edges.STATE.getName(), Checks.thrownBy(x::undo));
            e.same("logs", 5, x.logs());
        }
        e.of(64, "Saves the hut in a snapshot, in place of an earlier one with the same number");
        HutLedger x = Checks.hut(Edges.LONE);
        x.saveSnapshot(0);
        x.fetchLogs(1);
        x.saveSnapshot(1);
        x.fetchLogs(1);
        x.saveSnapshot(0);
        x.fetchLogs(1);
        x.restoreSnapshot(1);
        e.same("the other one", 6, x.logs());
        x.restoreSnapshot(0);
        e.same("in place of the earlier one", 7, x.logs());
        wholeSnapshot(Edges.CROWD, "lie 0 0;lie 9 11;take 0 8;take 9 0;burn 3;fetch 9;pass 21;");
        wholeSnapshot(Edges.LONE, "lie 0 0;take 0 0;burn 1;pass 4;burn 2;");
        wholeSnapshot(DEBTOR, "take 1 0;take 2 1;pass 8;pay 0 1;pass 3;");
    }

    private void wholeSnapshot(String setup, String script) {
        for (String other : new String[] {Edges.LONE, Edges.CROWD, Edges.FIRST}) {
            HutLedger x = Edges.hut(setup, script);
            x.saveSnapshot(1);
            Checks.type(x, other);
            x.loadSetup();
            Checks.script(x, "take 0 0;lie 0 0;burn 2;pass 13;");
            x.restoreSnapshot(1);
            HutLedger due = Edges.hut(setup, script);
            due.saveSnapshot(1);
            due.restoreSnapshot(1);
            e.same("all of it", Portrait.of(due), Portrait.of(x));
            e.same("as it was", Portrait.ofPresent(Edges.hut(setup, script)), Portrait.ofPresent(afterRestore(setup, script)));
        }
    }

    private static HutLedger afterRestore(String setup, String script) {
        HutLedger x = Edges.hut(setup, script);
        x.saveSnapshot(0);
        x.passHours(48);
        x.restoreSnapshot(0);
        return x;
    }

    private void restoreSnapshot() {
        e.of(65, "- `number`: 0 or 1", "Throws `IllegalArgumentException` if number is out of range");
        Supplier<HutLedger> both = saved(0, 1);
        e.argumentEdges("restoreSnapshot", 0, 1, both, HutLedger::restoreSnapshot);
        e.refused("restoreSnapshot(2), none saved", Edges.ARGUMENT, HutLedger::new, x -> x.restoreSnapshot(2));
        e.refused("restoreSnapshot(-1), none saved", Edges.ARGUMENT, HutLedger::new, x -> x.restoreSnapshot(-1));
        e.of(65, "Throws `IllegalStateException` if there is no such snapshot");
        e.refused("restoreSnapshot(0)", Edges.STATE, HutLedger::new, x -> x.restoreSnapshot(0));
        e.refused("restoreSnapshot(1)", Edges.STATE, HutLedger::new, x -> x.restoreSnapshot(1));
        e.refused("restoreSnapshot(1)", Edges.STATE, saved(0), x -> x.restoreSnapshot(1));
        e.refused("restoreSnapshot(0)", Edges.STATE, saved(1), x -> x.restoreSnapshot(0));
        e.of(65, "The snapshot stays saved, and no action can be undone after the call");
        HutLedger x = both.get();
        for (int i = 0; i < 3; i++) {
            x.restoreSnapshot(1);
            e.same("the snapshot", 7, x.logs());
            e.same("undo", Edges.STATE.getName(), Checks.thrownBy(x::undo));
            x.fetchLogs(9);
            e.same("undo of what came after", 0, x.undo());
            e.same("logs", 7, x.logs());
            x.fetchLogs(9);
            x.restoreSnapshot(0);
            e.same("the other snapshot", 6, x.logs());
        }
        e.of(65, "Replaces the hut by a snapshot");
        HutLedger y = Edges.hut(Edges.CROWD, "burn 2;pass 9;");
        y.saveSnapshot(0);
        y.restoreSnapshot(0);
        e.same("hour", 9, y.hour());
        e.same("rate", 2, y.setRate(0));
        y.saveSnapshot(1);
        y.restoreSnapshot(0);
        e.same("the snapshot is a copy", 2, y.setRate(1));
    }

    /** Snapshot 0 has 6 logs, snapshot 1 has 7, if they are saved; the hut has 8, and three actions can be undone. */
    private static Supplier<HutLedger> saved(int... numbers) {
        return () -> {
            HutLedger x = Checks.hut(Edges.LONE);
            for (int number = 0; number <= 1; number++) {
                x.fetchLogs(1);
                for (int one : numbers) {
                    if (one == number) {
                        x.saveSnapshot(one);
                    }
                }
            }
            x.fetchLogs(1);
            return x;
        };
    }

    private void manyCalls() {
        e.of("What it is", "An object is used for at most 512 calls");
        Consumer<HutLedger> pair = x -> {
            x.fetchLogs(1);
            x.undo();
        };
        HutLedger x = new HutLedger();
        for (int i = 0; i < 254; i++) {
            pair.accept(x);
        }
        e.same("the 509th call", 21, x.fetchLogs(1));
        e.same("the 510th call", 71, x.fetchLogs(50));
        e.same("the 511th call", 1, x.undo());
        e.same("the 512th call", 21, x.logs());
    }
}
