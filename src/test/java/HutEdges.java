import java.util.function.Supplier;

/** The edges of promises 8 to 36: questions about the hut, the blankets, the hikers and fairness. */
final class HutEdges {
    private static final int NONE = HutLedger.NONE;
    private static final String BARE = "hut 0;bunks 0;blankets;forecast 9;";

    private final Edges e;

    HutEdges(Edges e) {
        this.e = e;
    }

    void run() {
        hours();
        logsAndTemperature();
        hikerIn();
        noiseIn();
        quietestBunk();
        longestRow();
        bestPlaceFor();
        bestPlaceOrTable();
        userOf();
        pile();
        fittingBlanket();
        hikerCount();
        bunkAndBlanketOf();
        warmth();
        activity();
        hoursOf();
        coinsAndDebts();
        hikerAtRank();
        worstSnorer();
        numbersOfHikers();
        coldestHiker();
        fewestCold();
        bestExchange();
        warmestBunk();
        warmestOfEqualBunks();
        questionsChangeNothing();
    }

    // ---- the hut

    private void hours() {
        e.of(8, "Returns the present hour", "Returns the hour, 0 to 9999");
        HutLedger x = new HutLedger();
        e.same("at first", 0, x.hour());
        x.passHours(1);
        e.same("after an hour", 1, x.hour());
        x.passHours(48);
        e.same("after 48 more", 49, x.hour());
        x.undo();
        e.same("undone", 1, x.hour());
        e.same("at last", 9999, Edges.old().hour());
        e.of(9, "Returns the number of hours until the next dawn", "Returns 1 to 8");
        HutLedger y = new HutLedger();
        for (int hour = 0; hour <= 24; hour++) {
            e.same("hoursUntilDawn in hour " + hour, 8 - hour % 8, y.hoursUntilDawn());
            y.passHours(1);
        }
        e.same("hoursUntilDawn at last", 1, Edges.old().hoursUntilDawn());
    }

    private void logsAndTemperature() {
        e.of(10, "Returns the logs that are left", "Returns the number of logs, 0 to 99");
        HutLedger x = Checks.hut("hut 0;bunks 0;blankets;forecast 0;hiker 1 0 0;");
        e.same("none", 0, x.logs());
        x.fetchLogs(50);
        e.same("logs", 50, x.logs());
        x.fetchLogs(49);
        e.same("the most", 99, x.logs());
        x.setRate(3);
        x.passHours(32);
        e.same("logs", 3, x.logs());
        x.passHours(1);
        e.same("none is left", 0, x.logs());
        x.passHours(1);
        e.same("none is left", 0, x.logs());
        e.of(11, "Returns the temperature inside", "Returns the temperature outside in the present hour plus the heat");
        HutLedger y = Edges.hut("hut 99;bunks 0;blankets;forecast 0 20;hiker 1 0 0;", "burn 3;");
        int[] due = {0, 12 + 20, 18, 21 + 20, 22, 23 + 20, 23, 23 + 20};
        for (int temperature : due) {
            e.same("temperature", temperature, y.temperature());
            y.passHours(1);
        }
    }

    private void hikerIn() {
        e.of(12, "Returns the hiker in a bunk", "Returns the number of the hiker; NONE if the bunk is empty");
        HutLedger x = Edges.hut(Edges.CROWD, "lie 0 11;lie 9 0;");
        e.same("the first hiker in the last bunk", 0, x.hikerIn(11));
        e.same("the last hiker in the first bunk", 9, x.hikerIn(0));
        for (int bunk = 1; bunk < 11; bunk++) {
            e.same("empty", NONE, x.hikerIn(bunk));
        }
        x.getUp(0);
        e.same("empty again", NONE, x.hikerIn(11));
        e.of(12, "- `bunk`: number of a bunk", "Throws `IndexOutOfBoundsException` if there is no such bunk");
        e.bunkEdges("hikerIn", HutLedger::hikerIn);
    }

    private void noiseIn() {
        e.of(13, "Returns the noise in a bunk, as it is now, whether a hiker lies in it or not", "Returns the noise.");
        String bunks = "hut 0;bunks 0 0 0;blankets;forecast 9 0;";
        HutLedger x = Edges.hut(bunks + "hiker 9 5 0;hiker 9 3 0;hiker 30 9 0;", "lie 0 0;lie 1 2;");
        e.same("nobody lies in it", 8, x.noiseIn(1));
        e.same("a cold hiker lies down in it", 8, x.lieDown(2, 1));
        e.same("a cold hiker lies in it", 8, x.noiseIn(1));
        x.passHours(1);
        e.same("all are cold in the next hour", 0, x.noiseIn(1));
        x.passHours(1);
        e.same("and no more in the hour after it", 8, x.noiseIn(1));
        e.of(13, "A hiker does not hear the own snore");
        HutLedger alone = Edges.hut(bunks + "hiker 1 9 0;", "lie 0 1;");
        e.same("the own bunk", 0, alone.noiseIn(1));
        e.same("the bunk beside", 9, alone.noiseIn(0));
        e.same("activity", HutLedger.SLEEPS, alone.activity(0));
        e.of(13, "- `bunk`: number of a bunk", "Throws `IndexOutOfBoundsException` if there is no such bunk");
        e.bunkEdges("noiseIn", HutLedger::noiseIn);
    }

    private void quietestBunk() {
        e.of(14, "Returns the quietest empty bunk", "Returns the number of the empty bunk with the least noise");
        HutLedger one = Checks.hut(Edges.LONE);
        e.same("the only one", 0, one.quietestBunk());
        one.lieDown(0, 0);
        e.same("no bunk is empty", NONE, one.quietestBunk());
        HutLedger two = Edges.hut("hut 0;bunks 0 0;blankets;forecast 9;hiker 1 9 0;hiker 1 9 0;", "lie 0 0;");
        e.same("the only empty one, however loud", 1, two.quietestBunk());
        two.lieDown(1, 1);
        e.same("no bunk is empty", NONE, two.quietestBunk());
        HutLedger crowd = Checks.hut(Edges.CROWD);
        e.same("the first of the two highest", 5, crowd.quietestBunk());
        crowd.lieDown(0, 5);
        e.same("the last one", 11, crowd.quietestBunk());
        String bunks = "hut 0;bunks 5 0 0 0;blankets;forecast 9;";
        e.same("the height does not help against noise 1", 3, Edges.hut(bunks + "hiker 1 1 0;", "lie 0 1;").quietestBunk());
        e.same("no noise at all", 0, Edges.hut(bunks + "hiker 1 0 0;", "lie 0 1;").quietestBunk());
        e.same("a cold hiker makes no noise", 0, Edges.hut(bunks + "hiker 30 9 0;", "lie 0 1;").quietestBunk());
        String three = "hut 0;bunks 0 0 #;blankets;forecast 9;hiker 1 2 0;";
        e.same("equal: the lowest number", 0, Edges.hut(three.replace("#", "0"), "lie 0 1;").quietestBunk());
        e.same("equally loud: the height", 2, Edges.hut(three.replace("#", "1"), "lie 0 1;").quietestBunk());
    }

    private void longestRow() {
        e.of(15, "Returns the length of the longest row", "Returns the number of bunks; 0 if all bunks are empty");
        e.same("all are empty", 0, Checks.hut(Edges.CROWD).longestRow());
        e.same("one bunk", 1, Edges.hut(Edges.LONE, "lie 0 0;").longestRow());
        HutLedger ten = Checks.hut("hut 0;bunks" + " 0".repeat(10) + ";blankets;forecast 9;" + "hiker 1 0 0;".repeat(10));
        for (int i = 0; i < 10; i++) {
            ten.lieDown(i, 9 - i);
            e.same("from the last one on", i + 1, ten.longestRow());
        }
        ten.getUp(0);
        e.same("without the last one", 9, ten.longestRow());
        ten.getUp(4);
        e.same("five and three", 5, ten.longestRow());
        ten.getUp(9);
        e.same("four and three", 4, ten.longestRow());
        HutLedger ends = Edges.hut(Edges.CROWD, "lie 0 0;lie 1 11;");
        e.same("the two ends are no row", 1, ends.longestRow());
        ends.lieDown(2, 10);
        e.same("at the end", 2, ends.longestRow());
    }

    private void bestPlaceFor() {
        e.of(16, "Finds the place at which a hiker should be", "Returns the number of the empty bunk, or of the hiker's");
        String two = "hut 0;bunks 0 0;blankets;forecast 9;";
        HutLedger alone = Checks.hut(two + "hiker 1 0 0;");
        e.same("the lowest of equal ones", 0, alone.bestPlaceFor(0));
        alone.lieDown(0, 1);
        e.same("the lowest, not the own one", 0, alone.bestPlaceFor(0));
        HutLedger high = Checks.hut("hut 0;bunks 0 0 0 0 0 0 0 0 0 0 0 5;blankets;forecast 9;hiker 14 0 0;");
        e.same("only the last one is warm enough", 11, high.bestPlaceFor(0));
        high.lieDown(0, 11);
        e.same("the own one", 11, high.bestPlaceFor(0));
        HutLedger full = Edges.hut("hut 0;bunks 0;blankets;forecast 9;hiker 1 0 0;hiker 1 0 0;", "lie 0 0;");
        e.same("the own one, where no bunk is empty", 0, full.bestPlaceFor(0));
        HutLedger warming = Edges.hut("hut 0;bunks 0 0 0 0;blankets;forecast 9;hiker 10 0 0;hiker 1 0 0;", "lie 0 3;");
        e.same("where the other one is warmed", 2, warming.bestPlaceFor(1));
        e.same("on both sides of the other: the lowest", 1, Edges.after(warming, "lie 1 2;").bestPlaceFor(0));
        e.hikerEdges(16, "bestPlaceFor", HutLedger::bestPlaceFor);
    }

    private void bestPlaceOrTable() {
        e.of(16, "Returns the number of the empty bunk, or of the hiker's own one, with which the most hikers would sleep");
        String two = "hut 0;bunks 0 0;blankets;forecast 9;";
        HutLedger cold = Checks.hut(two + "hiker 30 0 0;");
        e.same("cold anywhere: the table is equal", NONE, cold.bestPlaceFor(0));
        cold.lieDown(0, 1);
        e.same("cold in the own one too", NONE, cold.bestPlaceFor(0));
        HutLedger loud = Edges.hut(two + "hiker 1 9 0;hiker 1 0 0;", "lie 1 0;");
        e.same("one sleeps instead of the other: equal", NONE, loud.bestPlaceFor(0));
        loud.lieDown(0, 1);
        e.same("equal to the own one", NONE, loud.bestPlaceFor(0));
        String three = "hut 0;bunks 0 0 0;blankets;forecast 9;";
        HutLedger louder = Edges.hut(three + "hiker 1 9 0;hiker 1 0 0;hiker 1 0 0;", "lie 1 0;lie 2 2;");
        e.same("two would lie awake: the table is better", NONE, louder.bestPlaceFor(0));
        louder.lieDown(0, 1);
        e.same("better than the own one", NONE, louder.bestPlaceFor(0));
        HutLedger full = Edges.hut("hut 0;bunks 0;blankets;forecast 9;hiker 1 0 0;hiker 1 0 0;", "lie 0 0;");
        e.same("no bunk for this hiker", NONE, full.bestPlaceFor(1));
    }

    // ---- blankets

    private void userOf() {
        e.of(17, "Returns the hiker who uses a blanket", "Returns the number of the hiker; NONE if the blanket lies");
        HutLedger x = Edges.hut(Edges.CROWD, "take 0 11;take 9 0;");
        e.same("the first hiker uses the last one", 0, x.userOf(11));
        e.same("the last hiker uses the first one", 9, x.userOf(0));
        for (int blanket = 1; blanket < 11; blanket++) {
            e.same("on the pile", NONE, x.userOf(blanket));
        }
        x.returnBlanket(0);
        e.same("on the pile again", NONE, x.userOf(11));
        e.of(17, "- `blanket`: number of a blanket", "Throws `IndexOutOfBoundsException` if there is no such blanket");
        e.blanketEdges("userOf", HutLedger::userOf);
    }

    private void pile() {
        e.of(18, "Returns a blanket on the pile by rank", "- `rank`: 0 for the first blanket",
                "Throws `NoSuchElementException` if there is no such rank");
        rankEdges("blanketOnPile", Edges.lived(BARE + "hiker 1 0 0;", "pass 9;"), 0, HutLedger::blanketOnPile);
        rankEdges("blanketOnPile", Edges.LONE_LIVED, 0, HutLedger::blanketOnPile);
        rankEdges("blanketOnPile", Edges.lived(Edges.LONE, "pass 9;"), 1, HutLedger::blanketOnPile);
        rankEdges("blanketOnPile", Edges.CROWD_LIVED, 10, HutLedger::blanketOnPile);
        rankEdges("blanketOnPile", Edges.lived(Edges.CROWD, "pass 9;"), 12, HutLedger::blanketOnPile);
        e.of(18, "The blankets are ranked by their thickness, the thickest first", "Returns the number of the blanket");
        ranked("blanketOnPile", Checks.hut(Edges.CROWD), HutLedger::blanketOnPile, 8, 7, 6, 5, 4, 3, 2, 11, 1, 10, 0, 9);
        ranked("blanketOnPile", Edges.hut(Edges.CROWD, "take 0 8;take 1 2;take 2 9;"), HutLedger::blanketOnPile,
                7, 6, 5, 4, 3, 11, 1, 10, 0);
        String equal = "hut 0;bunks 0;blankets" + " 5".repeat(12) + ";forecast 9;hiker 1 0 0;";
        ranked("blanketOnPile", Checks.hut(equal), HutLedger::blanketOnPile, 0, 1, 2, 3, 4, 5, 6, 7, 8, 9, 10, 11);
        e.of(19, "Returns the number of blankets on the pile", "Returns the number of blankets.");
        e.same("there are none", 0, Checks.hut(BARE + "hiker 1 0 0;").pileSize());
        e.same("all are used", 0, Edges.hut(Edges.LONE, "take 0 0;").pileSize());
        HutLedger x = Checks.hut(Edges.CROWD);
        for (int i = 0; i < 10; i++) {
            e.same("pileSize", 12 - i, x.pileSize());
            x.takeBlanket(i, i);
        }
        e.same("two are left", 2, x.pileSize());
        x.returnBlanket(9);
        e.same("one came back", 3, x.pileSize());
    }

    /** A question whose ranks go from 0 to one less than the count. */
    private interface Rank {
        int of(HutLedger x, int rank);
    }

    private void rankEdges(String call, Supplier<HutLedger> made, int count, Rank question) {
        for (int rank : new int[] {Integer.MIN_VALUE, -1, count, count + 1, 12, Integer.MAX_VALUE}) {
            e.refused(call + " of " + rank, Edges.ELEMENT, made, x -> question.of(x, rank));
        }
        for (int rank = 0; rank < count; rank++) {
            int there = rank;
            e.same(call + " of " + rank, "nothing", Checks.thrownBy(() -> question.of(made.get(), there)));
        }
    }

    private void ranked(String call, HutLedger x, Rank question, int... due) {
        for (int rank = 0; rank < due.length; rank++) {
            e.same(call + " of " + rank, due[rank], question.of(x, rank));
        }
        e.same(call + " of " + due.length, Edges.ELEMENT.getName(), Checks.thrownBy(() -> question.of(x, due.length)));
    }

    private void fittingBlanket() {
        e.of(20, "Returns the thinnest blanket on the pile with which a hiker would not be cold now",
                "Returns the number of the blanket, the lowest one if several blankets are equal; NONE if there is none");
        String pile = "hut 0;bunks 0 1;blankets 4 3 9 3 4;forecast 6;";
        int[] due = {1, 1, 1, 1, 0, 2, 2, 2, 2, 2, NONE};
        for (int need = 6; need <= 16; need++) {
            HutLedger x = Checks.hut(pile + "hiker " + need + " 0 0;");
            e.same("for a need of " + need, due[need - 6], x.fittingBlanket(0));
        }
        HutLedger x = Checks.hut(pile + "hiker 10 0 0;hiker 1 0 0;hiker 16 0 0;");
        x.takeBlanket(0, 0);
        e.same("in place of the present one", 4, x.fittingBlanket(0));
        x.takeBlanket(1, 4);
        e.same("in place of the present one", 2, x.fittingBlanket(0));
        x.lieDown(0, 1);
        e.same("a higher bunk helps", 1, x.fittingBlanket(0));
        x.takeBlanket(2, 2);
        x.getUp(0);
        e.same("none on the pile is thick enough", NONE, x.fittingBlanket(0));
        e.same("for one who needs none", 1, x.fittingBlanket(1));
        e.same("the pile is empty", NONE, Edges.hut(Edges.LONE, "take 0 0;").fittingBlanket(0));
        e.same("there are none", NONE, Checks.hut(BARE + "hiker 1 0 0;").fittingBlanket(0));
        HutLedger last = Checks.hut("hut 0;bunks 0;blankets" + " 1".repeat(11) + " 2;forecast 6;hiker 8 0 0;");
        e.same("the last one", 11, last.fittingBlanket(0));
        e.hikerEdges(20, "fittingBlanket", HutLedger::fittingBlanket);
    }

    // ---- hikers

    private void hikerCount() {
        e.of(21, "Returns the number of hikers", "Returns 1 to 10");
        for (int hikers = 1; hikers <= 10; hikers++) {
            e.same("hikerCount", hikers, Checks.hut(BARE + "hiker 1 0 0;".repeat(hikers)).hikerCount());
        }
    }

    private void bunkAndBlanketOf() {
        e.of(22, "Returns the bunk of a hiker", "Returns the number of the bunk; NONE if the hiker sits at the table");
        HutLedger x = Edges.hut(Edges.CROWD, "lie 0 11;lie 9 0;take 0 11;take 9 0;");
        e.same("bunkOf(0)", 11, x.bunkOf(0));
        e.same("bunkOf(9)", 0, x.bunkOf(9));
        e.same("bunkOf(1)", NONE, x.bunkOf(1));
        x.getUp(9);
        e.same("bunkOf(9)", NONE, x.bunkOf(9));
        e.of(23, "Returns the blanket of a hiker", "Returns the number of the blanket; NONE if the hiker uses none");
        e.same("blanketOf(0)", 11, x.blanketOf(0));
        e.same("blanketOf(9)", 0, x.blanketOf(9));
        e.same("blanketOf(1)", NONE, x.blanketOf(1));
        x.returnBlanket(9);
        e.same("blanketOf(9)", NONE, x.blanketOf(9));
        e.hikerEdges(22, "bunkOf", HutLedger::bunkOf);
        e.hikerEdges(23, "blanketOf", HutLedger::blanketOf);
    }

    private void warmth() {
        e.of(24, "Returns the warmth of a hiker", "Returns the warmth.");
        HutLedger x = Checks.hut("hut 9;bunks 0 5;blankets 1 9;forecast 0 20;hiker 1 0 0;hiker 1 0 0;");
        e.same("nothing warms", 0, x.warmth(0));
        e.same("the thinnest blanket", 1, x.takeBlanket(0, 0));
        e.same("the thickest blanket", 9, x.takeBlanket(0, 1));
        x.lieDown(0, 0);
        e.same("the lowest bunk", 9, x.warmth(0));
        x.lieDown(0, 1);
        e.same("the highest bunk", 14, x.warmth(0));
        x.lieDown(1, 0);
        e.same("a neighbour", 15, x.warmth(0));
        x.setRate(3);
        x.passHours(1);
        e.same("20 degrees and three logs", 15 + 20 + 12, x.warmth(0));
        e.same("beside", 1 + 20 + 12, x.warmth(1));
        e.hikerEdges(24, "warmth", HutLedger::warmth);
    }

    private void activity() {
        e.of(25, "Tells what would happen to a hiker in step 2 of an hour", "Returns SHIVERS, LIES_AWAKE, SLEEPS or WAITS");
        String bunks = "hut 9;bunks 0 0 0;blankets;forecast 9;";
        for (int snore = 5; snore <= 8; snore++) {
            HutLedger x = Edges.hut(bunks + "hiker 10 0 0;hiker 1 " + snore + " 0;", "lie 0 0;lie 1 1;");
            e.same("noise " + snore, snore > 6 ? HutLedger.LIES_AWAKE : HutLedger.SLEEPS, x.activity(0));
            x.getUp(1);
            e.same("a degree too cold", HutLedger.SHIVERS, x.activity(0));
        }
        for (int need = 8; need <= 10; need++) {
            HutLedger x = Checks.hut(bunks + "hiker " + need + " 0 0;");
            e.same("at the table, need " + need, need > 9 ? HutLedger.SHIVERS : HutLedger.WAITS, x.activity(0));
            x.lieDown(0, 0);
            e.same("in a bunk, need " + need, need > 9 ? HutLedger.SHIVERS : HutLedger.SLEEPS, x.activity(0));
        }
        HutLedger stove = Edges.hut(bunks + "hiker 10 0 0;", "burn 3;");
        e.same("as it is now, before the logs burn", HutLedger.SHIVERS, stove.activity(0));
        stove.passHours(1);
        e.same("afterwards", HutLedger.WAITS, stove.activity(0));
        e.hikerEdges(25, "activity", HutLedger::activity);
    }

    private void hoursOf() {
        e.of(26, "- `activity`: SHIVERS, LIES_AWAKE, SLEEPS or WAITS", "Throws `IllegalArgumentException` if activity is none");
        e.argumentEdges("hoursOf(0, ..)", 0, 3, Edges.LONE_LIVED, (x, activity) -> x.hoursOf(0, activity));
        e.argumentEdges("hoursOf(9, ..)", 0, 3, Edges.CROWD_LIVED, (x, activity) -> x.hoursOf(9, activity));
        e.refused("hoursOf(10, 4)", Edges.INDEX, Edges.CROWD_LIVED, x -> x.hoursOf(10, 4));
        e.refused("hoursOf(-1, -1)", Edges.INDEX, Edges.CROWD_LIVED, x -> x.hoursOf(-1, -1));
        e.of(26, "Returns in how many hours a thing happened to a hiker since the setup was loaded", "Returns the number of hours");
        String setup = "hut 0;bunks 0 0;blankets;forecast 9;hiker 9 0 0;hiker 9 7 0;hiker 10 0 0;";
        HutLedger x = Edges.hut(setup, "lie 0 0;");
        hoursOf(x, 0, 0, 0, 0, 0);
        x.passHours(1);
        hoursOf(x, 0, 0, 0, 1, 0);
        hoursOf(x, 1, 0, 0, 0, 1);
        hoursOf(x, 2, 1, 0, 0, 0);
        x.lieDown(1, 1);
        x.passHours(48);
        hoursOf(x, 0, 0, 48, 1, 0);
        hoursOf(x, 1, 0, 0, 48, 1);
        hoursOf(x, 2, 49, 0, 0, 0);
        x.undo();
        hoursOf(x, 0, 0, 0, 1, 0);
        Checks.type(x, setup);
        x.loadSetup();
        hoursOf(x, 2, 0, 0, 0, 0);
        HutLedger old = Edges.old();
        e.same("9999 hours", 9999, old.hoursOf(0, 0) + old.hoursOf(0, 1) + old.hoursOf(0, 2) + old.hoursOf(0, 3));
        e.hikerEdges(26, "hoursOf", (one, hiker) -> one.hoursOf(hiker, 0));
    }

    private void hoursOf(HutLedger x, int hiker, int... due) {
        for (int activity = 0; activity < 4; activity++) {
            e.same("hoursOf(" + hiker + ", " + activity + ")", due[activity], x.hoursOf(hiker, activity));
        }
    }

    private void coinsAndDebts() {
        e.of(27, "Returns the coins of a hiker", "Returns the number of coins");
        String coins = "hut 0;bunks 0;blankets" + " 9".repeat(9) + ";forecast 1;" + "hiker 1 0 99;".repeat(9) + "hiker 1 0 0;";
        HutLedger x = Edges.hut(coins, "take 1 0;take 2 1;take 3 2;take 4 3;take 5 4;take 6 5;take 7 6;take 8 7;take 9 8;");
        e.same("no coins", 0, x.coinsOf(9));
        e.same("the most at first", 99, x.coinsOf(0));
        x.passHours(8);
        e.same("more by the pot", 99 - 3 + 8 * 3, x.coinsOf(0));
        e.same("what a night and a blanket leave", 99 - 6, x.coinsOf(8));
        e.same("never less than none", 0, x.coinsOf(9));
        e.of(28, "Returns the debt of a hiker", "Returns the debt in coins");
        e.same("a debt", 6, x.debtOf(9));
        e.same("no debt", 0, x.debtOf(0));
        e.same("after 1249 dawns", 3 * 1249 - 12, Edges.old().debtOf(0));
        e.hikerEdges(27, "coinsOf", HutLedger::coinsOf);
        e.hikerEdges(28, "debtOf", HutLedger::debtOf);
    }

    private void hikerAtRank() {
        e.of(29, "Returns a hiker by rank", "- `rank`: 0 for the first hiker", "Returns the number of the hiker",
                "Throws `NoSuchElementException` if there is no such rank");
        rankEdges("hikerAtRank", Edges.LONE_LIVED, 1, HutLedger::hikerAtRank);
        rankEdges("hikerAtRank", Edges.CROWD_LIVED, 10, HutLedger::hikerAtRank);
        e.of(29, "The hikers are ranked by the hours in which they slept, the most first");
        ranked("hikerAtRank", Checks.hut(Edges.CROWD), HutLedger::hikerAtRank, 0, 1, 2, 3, 4, 5, 6, 7, 8, 9);
        String bunks = "hut 0;bunks 0 0;blankets;forecast 9 3;";
        HutLedger x = Checks.hut(bunks + "hiker 30 0 0;hiker 1 0 0;hiker 4 0 0;hiker 30 0 0;hiker 1 0 0;");
        x.lieDown(2, 1);
        x.passHours(1);
        ranked("hikerAtRank", x, HutLedger::hikerAtRank, 2, 1, 4, 0, 3);
        x.passHours(1);
        e.same("it has shivered", 1, x.hoursOf(2, HutLedger.SHIVERS));
        ranked("sleep goes before shivering", x, HutLedger::hikerAtRank, 2, 1, 4, 0, 3);
        x.getUp(2);
        x.lieDown(4, 0);
        x.passHours(1);
        ranked("equal sleep, fewer shivers", x, HutLedger::hikerAtRank, 4, 2, 1, 0, 3);
        x.passHours(1);
        ranked("more sleep", x, HutLedger::hikerAtRank, 4, 2, 1, 0, 3);
    }

    private void worstSnorer() {
        e.of(30, "Returns the hiker who disturbs the most others now", "Returns the hiker without whom the fewest");
        String bunks = "hut 0;bunks 0 0 0 0 0 0;blankets;forecast 9;";
        String quiet = "hiker 1 0 0;";
        e.same("nobody lies awake", NONE, Edges.hut(bunks + quiet + "hiker 1 6 0;", "lie 0 0;lie 1 1;").worstSnorer());
        e.same("one lies awake", 1, Edges.hut(bunks + quiet + "hiker 1 7 0;", "lie 0 0;lie 1 1;").worstSnorer());
        e.same("at the table", NONE, Edges.hut(bunks + quiet + "hiker 1 7 0;", "lie 0 0;").worstSnorer());
        e.same("one cold", NONE, Edges.hut(bunks + quiet + "hiker 30 7 0;", "lie 0 0;lie 1 1;").worstSnorer());
        int[][] snores = {{7, 7, NONE}, {6, 7, 2}, {7, 6, 1}, {6, 6, 1}, {1, 6, 1}, {6, 1, 1}, {1, 7, 2}, {0, 7, 2}, {3, 3, NONE}};
        for (int[] two : snores) {
            String hikers = quiet + "hiker 1 " + two[0] + " 0;hiker 1 " + two[1] + " 0;";
            HutLedger x = Edges.hut(bunks + hikers, "lie 0 1;lie 2 0;lie 1 2;");
            e.same("between " + two[0] + " and " + two[1], two[2], x.worstSnorer());
        }
        e.same("the first hiker", 0, Edges.hut(bunks + "hiker 1 7 0;" + quiet, "lie 0 0;lie 1 1;").worstSnorer());
        e.same("the last hiker", 9, Edges.hut(bunks + quiet.repeat(9) + "hiker 1 7 0;", "lie 0 0;lie 9 1;").worstSnorer());
        HutLedger most = Edges.hut(bunks + quiet + quiet + quiet + "hiker 1 9 0;hiker 1 9 0;",
                "lie 0 0;lie 1 2;lie 2 5;lie 3 4;lie 4 1;");
        e.same("two rather than one", 4, most.worstSnorer());
        e.same("two rather than one, whatever the number", 3, Edges.after(most, "rise 4;lie 4 3;lie 3 1;lie 4 4;").worstSnorer());
    }

    private void numbersOfHikers() {
        e.of(31, "Returns the number of hikers without a blanket", "Returns the number of hikers.");
        HutLedger x = Checks.hut(Edges.CROWD);
        for (int i = 0; i < 10; i++) {
            e.same("hikersWithout", 10 - i, x.hikersWithout());
            x.takeBlanket(i, i + 1);
        }
        e.same("all use one", 0, x.hikersWithout());
        x.takeBlanket(0, 11);
        e.same("another one", 0, x.hikersWithout());
        x.returnBlanket(0);
        e.same("one without", 1, x.hikersWithout());
        e.of(32, "Returns the number of hikers who are cold now", "Returns the number of hikers.");
        for (int need = 9; need <= 11; need++) {
            for (int hikers = 1; hikers <= 10; hikers++) {
                HutLedger y = Checks.hut("hut 0;bunks 0;blankets 1;forecast 10;" + ("hiker " + need + " 0 0;").repeat(hikers));
                e.same("need " + need, need > 10 ? hikers : 0, y.coldHikers());
                y.takeBlanket(hikers - 1, 0);
                e.same("one warmed", need > 10 ? hikers - 1 : 0, y.coldHikers());
            }
        }
    }

    // ---- fairness

    private void coldestHiker() {
        e.of(33, "Returns the hiker who misses the most warmth", "Returns the number of the hiker with the largest difference");
        e.same("one alone", 0, Checks.hut(BARE + "hiker 1 0 0;").coldestHiker());
        e.same("all are equal", 0, Checks.hut(BARE + "hiker 30 0 0;".repeat(10)).coldestHiker());
        e.same("the last one", 9, Checks.hut(BARE + "hiker 10 0 0;".repeat(9) + "hiker 11 0 0;").coldestHiker());
        e.same("two equal ones", 1, Checks.hut(BARE + "hiker 9 0 0;hiker 11 0 0;hiker 11 0 0;").coldestHiker());
        e.same("nobody is cold", 2, Checks.hut(BARE + "hiker 1 0 0;hiker 1 0 0;hiker 2 0 0;hiker 2 0 0;").coldestHiker());
        HutLedger x = Checks.hut("hut 0;bunks 0;blankets 1;forecast 9;hiker 12 0 0;hiker 11 0 0;");
        e.same("the greater need", 0, x.coldestHiker());
        x.takeBlanket(0, 0);
        e.same("equal with the blanket", 0, x.coldestHiker());
        x.lieDown(1, 0);
        x.swapBlankets(0, 1);
        x.getUp(1);
        e.same("the one without", 0, x.coldestHiker());
    }

    private void fewestCold() {
        e.of(34, "Returns the smallest number of hikers who would be cold now if all blankets were distributed anew",
                "Returns the number of hikers");
        e.same("nobody is cold", 0, cold("", 9, 9, 9));
        e.same("no blankets", 2, cold("", 9, 10, 11));
        e.same("thick enough", 0, cold(" 4", 13));
        e.same("a degree too thin", 1, cold(" 4", 14));
        e.same("at most one to each hiker", 1, cold(" 4 4", 14));
        e.same("two for three", 1, cold(" 9 9", 13, 13, 13));
        e.same("the thick one for the greater need", 0, cold(" 2 5", 14, 11));
        e.same("the thick one for the greater need", 0, cold(" 5 2", 14, 11));
        e.same("one too thin", 1, cold(" 2 5", 14, 14));
        e.same("both too thin", 2, cold(" 2 5", 15, 15));
        e.same("enough for small needs", 0, cold(" 2 5", 11, 11));
        e.same("nothing for a great need", 1, cold(" 2 5", 10, 15));
        e.same("each exactly enough", 0, cold(" 9 8 7 6 5 4 3 2 1", 10, 11, 12, 13, 14, 15, 16, 17, 18));
        e.same("one short", 1, cold(" 9 8 7 6 5 4 3 2 1", 10, 11, 12, 13, 14, 15, 16, 17, 18, 18));
        e.same("all ten", 10, cold(" 1 1 1 1 1 1 1 1 1 1 1 1", 11, 11, 11, 11, 11, 11, 11, 11, 11, 11));
        e.same("none of ten", 0, cold(" 1 1 1 1 1 1 1 1 1 1 1 1", 10, 10, 10, 10, 10, 10, 10, 10, 10, 10));
        HutLedger x = Edges.hut("hut 0;bunks 5;blankets 4;forecast 9;hiker 9 0 0;hiker 13 0 0;", "take 0 0;");
        e.same("the used ones too", 0, x.fewestCold());
        e.same("nothing changes", 1, x.coldHikers());
        HutLedger y = Edges.hut("hut 0;bunks 5;blankets 4;forecast 9;hiker 14 0 0;hiker 13 0 0;", "take 0 0;lie 0 0;");
        e.same("who lies warm needs none", 0, y.fewestCold());
        y.getUp(0);
        e.same("who does not", 1, y.fewestCold());
    }

    /** The answer of fewestCold at nine degrees. */
    private static int cold(String blankets, int... needs) {
        StringBuilder setup = new StringBuilder("hut 0;bunks 0;blankets" + blankets + ";forecast 9;");
        for (int need : needs) {
            setup.append("hiker ").append(need).append(" 0 0;");
        }
        return Checks.hut(setup.toString()).fewestCold();
    }

    private void bestExchange() {
        e.of(35, "Finds the best exchange of blankets", "Returns ten times the number of the first hiker of the pair");
        e.same("no pair", NONE, Edges.hut("hut 0;bunks 0;blankets 9;forecast 9;hiker 30 0 0;", "take 0 0;").bestExchange());
        e.same("nobody uses one", NONE, exchange(2, new int[] {}, 0));
        e.same("nobody is cold", NONE, exchange(2, new int[] {0}));
        e.same("the two first", 1, exchange(2, new int[] {0}, 1));
        e.same("the lower number first", 1, exchange(2, new int[] {1}, 0));
        e.same("the first and the last", 9, exchange(10, new int[] {0}, 9));
        e.same("the first and the last", 9, exchange(10, new int[] {9}, 0));
        e.same("the two last", 89, exchange(10, new int[] {8}, 9));
        e.same("the two last", 89, exchange(10, new int[] {9}, 8));
        e.same("equal pairs with the same user", 25, exchange(10, new int[] {5}, 2, 7));
        e.same("equal pairs with the same user", 56, exchange(10, new int[] {5}, 6, 7));
        e.same("equal pairs with the same cold one", 12, exchange(10, new int[] {3, 1}, 2));
        e.same("equal pairs of four", 24, exchange(10, new int[] {4, 5}, 2, 3));
        e.same("the cold one uses it already", NONE, exchange(2, new int[] {0}, 0));
        HutLedger turned = Edges.hut("hut 0;bunks 0;blankets 4;forecast 9;hiker 13 0 0;hiker 13 0 0;", "take 0 0;");
        e.same("one becomes cold for the other", NONE, turned.bestExchange());
        HutLedger thin = Edges.hut("hut 0;bunks 0;blankets 4;forecast 9;hiker 9 0 0;hiker 14 0 0;", "take 0 0;");
        e.same("a degree too thin", NONE, thin.bestExchange());
        HutLedger both = Edges.hut("hut 0;bunks 0;blankets 4 3;forecast 9;hiker 12 0 0;hiker 13 0 0;", "take 0 0;take 1 1;");
        e.same("both use one", 1, both.bestExchange());
        HutLedger frozen = Edges.hut("hut 0;bunks 0;blankets 4;forecast 9;hiker 13 0 0;hiker 30 0 0;", "take 1 0;");
        e.same("the second stays cold", 1, frozen.bestExchange());
        HutLedger first = Edges.hut("hut 0;bunks 0;blankets 4;forecast 9;hiker 30 0 0;hiker 13 0 0;", "take 0 0;");
        e.same("the first stays cold", 1, first.bestExchange());
        HutLedger pile = Checks.hut("hut 0;bunks 0;blankets 4;forecast 9;hiker 9 0 0;hiker 13 0 0;");
        e.same("the pile is no hiker", NONE, pile.bestExchange());
    }

    /** The answer of bestExchange where the users need no blanket of theirs and the cold ones any of them. */
    private static int exchange(int hikers, int[] users, int... cold) {
        StringBuilder setup = new StringBuilder("hut 0;bunks 0;blankets 4 4;forecast 9;");
        for (int i = 0; i < hikers; i++) {
            int hiker = i;
            boolean isCold = java.util.Arrays.stream(cold).anyMatch(one -> one == hiker);
            setup.append("hiker ").append(isCold ? 13 : 9).append(" 0 0;");
        }
        HutLedger x = Checks.hut(setup.toString());
        for (int i = 0; i < users.length; i++) {
            x.takeBlanket(users[i], i);
        }
        return x.bestExchange();
    }

    private void warmestBunk() {
        e.of(36, "Returns the bunk in which a hiker would be warmest", "Returns the number of the empty bunk, or the hiker's own one");
        String one = "hut 0;bunks 0;blankets;forecast 0;hiker 1 0 0;hiker 1 0 0;";
        HutLedger x = Checks.hut(one);
        e.same("a warmth of 0", 0, x.warmestBunk(0));
        x.lieDown(0, 0);
        e.same("the own one", 0, x.warmestBunk(0));
        e.same("there is no such bunk", NONE, x.warmestBunk(1));
        HutLedger last = Checks.hut("hut 0;bunks 4 4 4 4 4 4 4 4 4 4 4 5;blankets;forecast 0;hiker 30 0 0;hiker 30 0 0;");
        e.same("the last one is higher", 11, last.warmestBunk(0));
        last.lieDown(1, 0);
        e.same("as warm beside the other: the lower number", 1, last.warmestBunk(0));
        last.lieDown(1, 11);
        e.same("beside the other", 10, last.warmestBunk(0));
        e.same("the own one", 11, last.warmestBunk(1));
        last.lieDown(0, 10);
        e.same("the own one beside the other", 11, last.warmestBunk(1));
        e.same("the own one beside the other", 10, last.warmestBunk(0));
        HutLedger own = Edges.hut("hut 0;bunks 0 0 0;blankets;forecast 0;hiker 1 0 0;", "lie 0 2;");
        e.same("nobody is beside an empty own one", 0, own.warmestBunk(0));
        e.hikerEdges(36, "warmestBunk", HutLedger::warmestBunk);
    }

    private void warmestOfEqualBunks() {
        e.of(36, "Returns the number of the empty bunk, or the hiker's own one");
        String bunks = "hut 0;bunks 0 0 0 0;blankets;forecast 9;hiker 1 9 0;";
        int[][] snores = {{5, 3, 2}, {3, 5, 1}, {3, 3, 1}, {0, 0, 1}, {1, 0, 2}, {0, 1, 1}};
        for (int[] two : snores) {
            String others = "hiker 1 " + two[0] + " 0;hiker 1 " + two[1] + " 0;";
            HutLedger x = Edges.hut(bunks + others, "lie 1 0;lie 2 3;");
            e.same("between " + two[0] + " and " + two[1], two[2], x.warmestBunk(0));
        }
        HutLedger thaw = Edges.hut(bunks + "hiker 10 9 0;hiker 1 5 0;", "lie 1 0;lie 2 3;");
        e.same("the cold one would snore beside the hiker", 2, thaw.warmestBunk(0));
        HutLedger warm = Edges.hut("hut 0;bunks 0 0 1;blankets;forecast 9;hiker 1 0 0;hiker 1 9 0;", "lie 1 1;");
        e.same("a degree is more than any noise", 2, warm.warmestBunk(0));
    }

    private void questionsChangeNothing() {
        e.of(8, "Returns the present hour");
        for (Supplier<HutLedger> made : java.util.List.of(Edges.LONE_LIVED, Edges.CROWD_LIVED)) {
            e.onlyAsks("questions about the hut", made, x -> {
                x.hour();
                x.hoursUntilDawn();
                x.logs();
                x.temperature();
                x.hikerIn(0);
                x.noiseIn(0);
                x.quietestBunk();
                x.longestRow();
                x.bestPlaceFor(0);
                x.userOf(0);
                x.pileSize();
                x.fittingBlanket(0);
            });
            e.onlyAsks("questions about the hikers", made, x -> {
                x.hikerCount();
                x.bunkOf(0);
                x.blanketOf(0);
                x.warmth(0);
                x.activity(0);
                x.hoursOf(0, 0);
                x.coinsOf(0);
                x.debtOf(0);
                x.hikerAtRank(0);
                x.worstSnorer();
                x.hikersWithout();
                x.coldHikers();
                x.coldestHiker();
                x.fewestCold();
                x.bestExchange();
                x.warmestBunk(0);
            });
        }
        e.onlyAsks("blanketOnPile", Edges.CROWD_LIVED, x -> x.blanketOnPile(9));
    }
}
