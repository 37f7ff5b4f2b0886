/** The edges of promises 37 to 50: totals, checks and predictions. */
final class TotalEdges {
    private static final int NONE = HutLedger.NONE;
    private static final String BARE = "hut 0;bunks 0;blankets;forecast 9;";

    private final Edges e;

    TotalEdges(Edges e) {
        this.e = e;
    }

    void run() {
        hutCoins();
        burnedLogs();
        totalDebt();
        auditDifference();
        meanWarmth();
        sleepShare();
        temperatureAfter();
        shiversUntilDawn();
        paymentAtDawn();
        debtAfter();
        dawnsUntilDebt();
        hoursUntilNoLogs();
        rateNeeded();
        rateNeededWithFewLogs();
        bestRate();
        predictionsBeyondTheLastHour();
        predictionsChangeNothing();
    }

    // ---- totals and checks

    private void hutCoins() {
        e.of(37, "Returns the coins of the hut", "Returns all coins that hikers have paid to the hut");
        HutLedger x = Checks.hut("hut 0;bunks 0;blankets 9;forecast 1;hiker 1 0 0;hiker 1 0 2;hiker 1 0 9;");
        e.same("at first", 0, x.hutCoins());
        x.takeBlanket(2, 0);
        x.passHours(7);
        e.same("before the dawn", 0, x.hutCoins());
        x.passHours(1);
        e.same("what is paid in coins, and the rest of a pot of 3", 0 + 2 + 3 + 1, x.hutCoins());
        e.same("debtOf", 3, x.debtOf(0));
        x.payDebt(0, 1);
        e.same("a paid debt", 7, x.hutCoins());
        x.undo();
        e.same("not paid", 6, x.hutCoins());
        HutLedger all = Edges.hut("hut 0;bunks 0;blankets 9;forecast 1;hiker 1 0 5;", "take 0 0;pass 8;");
        e.same("the whole pot, as far as it was paid", 5, all.hutCoins());
        all.passHours(48);
        e.same("debts are no coins", 5, all.hutCoins());
        e.same("all coins there were", 12 + 5 + 30 + 1, Edges.old().hutCoins());
    }

    private void burnedLogs() {
        e.of(38, "Returns the number of logs that were burned since the setup was loaded", "Returns the number of logs.");
        HutLedger x = Edges.hut("hut 4;bunks 0;blankets;forecast 1;hiker 1 0 0;", "burn 3;");
        e.same("at first", 0, x.burnedLogs());
        x.passHours(1);
        e.same("three", 3, x.burnedLogs());
        x.passHours(1);
        e.same("not more than there were", 4, x.burnedLogs());
        x.passHours(8);
        e.same("a dawn later", 4, x.burnedLogs());
        for (int i = 1; i <= 3; i++) {
            x.fetchLogs(50);
            x.passHours(48);
            e.same("burnedLogs", 4 + 50 * i, x.burnedLogs());
        }
        Checks.type(x, BARE + "hiker 1 0 0;");
        x.loadSetup();
        e.same("a new setup", 0, x.burnedLogs());
    }

    private void totalDebt() {
        e.of(39, "Returns the sum of all debts", "Returns the sum in coins");
        HutLedger x = Checks.hut(BARE + "hiker 1 0 2;hiker 1 0 3;hiker 1 0 4;");
        e.same("at first", 0, x.totalDebt());
        x.passHours(8);
        e.same("one debt", 1, x.totalDebt());
        x.passHours(8);
        e.same("three debts", 4 + 3 + 2, x.totalDebt());
        e.same("of ten", 30, Edges.hut(BARE + "hiker 1 0 0;".repeat(10), "pass 8;").totalDebt());
        e.same("after 1249 dawns", 4 * 3 * 1249 - 48, Edges.old().totalDebt());
    }

    private void auditDifference() {
        e.of(40, "Recounts the bookkeeping in another way", "Returns the absolute difference of the coins");
        for (String setup : new String[] {Edges.LONE, Edges.CROWD, Edges.FIRST}) {
            HutLedger x = Checks.hut(setup);
            e.same("at first", 0, x.auditDifference());
            x.takeBlanket(0, 0);
            x.lieDown(0, 0);
            x.setRate(3);
            x.fetchLogs(40);
            e.same("logs fetched", 0, x.auditDifference());
            for (int hours = 1; hours <= 20; hours++) {
                x.passHours(hours);
                e.same("hours passed", 0, x.auditDifference());
            }
            x.saveSnapshot(0);
            x.undo();
            e.same("undone", 0, x.auditDifference());
            x.restoreSnapshot(0);
            e.same("restored", 0, x.auditDifference());
            Checks.type(x, Edges.FIRST);
            x.loadSetup();
            e.same("loaded", 0, x.auditDifference());
        }
        HutLedger paid = Edges.hut("hut 0;bunks 0;blankets 9;forecast 1;hiker 1 0 0;hiker 1 0 9;", "take 1 0;pass 8;pay 0 3;");
        e.same("a debt paid", 0, paid.auditDifference());
        e.same("at last", 0, Edges.old().auditDifference());
    }

    private void meanWarmth() {
        e.of(41, "Returns the mean warmth of the hikers", "Returns the sum of the warmths as a double divided");
        e.same("no warmth", 0.0, Checks.hut(BARE.replace("9", "0") + "hiker 1 0 0;").meanWarmth());
        e.same("one", 9.0, Checks.hut(BARE + "hiker 1 0 0;").meanWarmth());
        for (int hikers = 1; hikers <= 10; hikers++) {
            HutLedger x = Checks.hut("hut 0;bunks 0;blankets 1;forecast 9;" + "hiker 1 0 0;".repeat(hikers));
            x.takeBlanket(0, 0);
            e.same("of " + hikers, (double) (9 * hikers + 1) / (double) hikers, x.meanWarmth());
        }
    }

    private void sleepShare() {
        e.of(42, "Returns the share of the hours that were slept", "Returns the sum, over all hikers, of the hours");
        for (int hikers = 1; hikers <= 10; hikers++) {
            HutLedger x = Edges.hut(BARE + "hiker 1 0 0;".repeat(hikers), "lie 0 0;");
            e.same("at hour 0", 0.0f, x.sleepShare());
            x.passHours(1);
            e.same("one of " + hikers, 1.0f / (float) hikers, x.sleepShare());
            x.getUp(0);
            x.passHours(6);
            e.same("one hour of seven", 1.0f / (float) (7 * hikers), x.sleepShare());
            x.undo();
            x.undo();
            x.undo();
            e.same("at hour 0 again", 0.0f, x.sleepShare());
        }
        HutLedger x = Checks.hut(BARE + "hiker 1 0 0;".repeat(10));
        x.passHours(1);
        e.same("nobody slept", 0.0f, x.sleepShare());
        x.lieDown(9, 0);
        for (int i = 0; i < 208; i++) {
            x.passHours(48);
        }
        x.passHours(14);
        e.same("at hour 9999", (float) 9998 / (float) 99990, x.sleepShare());
    }

    // ---- predictions

    private void temperatureAfter() {
        e.of(43, "- `hours`: 0 to 96", "Throws `IllegalArgumentException` if hours is out of range");
        e.argumentEdges("temperatureAfter", 0, 96, Edges.LONE_LIVED, HutLedger::temperatureAfter);
        e.argumentEdges("temperatureAfter", 0, 96, Edges.CROWD_LIVED, HutLedger::temperatureAfter);
        e.of(43, "Predicts the temperature inside if only hours pass", "Returns the temperature after these hours");
        HutLedger x = Edges.hut("hut 4;bunks 0;blankets;forecast 0 0 0 9;hiker 1 0 0;", "burn 3;");
        int[] due = {0, 12, 10, 5 + 9, 2, 1, 0, 9, 0, 0, 0, 9};
        for (int hours = 0; hours < due.length; hours++) {
            e.same("temperatureAfter(" + hours + ")", due[hours], x.temperatureAfter(hours));
        }
        e.same("temperatureAfter(95)", 9, x.temperatureAfter(95));
        e.same("temperatureAfter(96)", 0, x.temperatureAfter(96));
        x.passHours(2);
        e.same("now", 10, x.temperatureAfter(0));
        e.same("an hour later", 14, x.temperatureAfter(1));
        HutLedger steady = Edges.hut("hut 99;bunks 0;blankets;forecast 0;hiker 1 0 0;", "burn 1;");
        e.same("with logs for 99 hours", 7, steady.temperatureAfter(96));
    }

    private void shiversUntilDawn() {
        e.of(44, "Predicts how often a hiker will shiver until the next dawn", "Returns the number of hours");
        HutLedger x = Checks.hut("hut 9;bunks 1;blankets 1;forecast 9 8;hiker 9 0 0;hiker 8 0 0;hiker 10 0 0;");
        int[] every = {4, 4, 3, 3, 2, 2, 1, 1, 4};
        int[] all = {8, 7, 6, 5, 4, 3, 2, 1, 8};
        for (int hour = 0; hour <= 8; hour++) {
            e.same("in odd hours, from " + hour, every[hour], x.shiversUntilDawn(0));
            e.same("never", 0, x.shiversUntilDawn(1));
            e.same("always, from " + hour, all[hour], x.shiversUntilDawn(2));
            x.passHours(1);
        }
        x.undo();
        x.takeBlanket(0, 0);
        e.same("with a blanket", 0, x.shiversUntilDawn(0));
        x.setRate(1);
        e.same("with a fire", 0, x.shiversUntilDawn(2));
        HutLedger few = Edges.hut("hut 1;bunks 0;blankets;forecast 9;hiker 11 0 0;", "burn 3;");
        e.same("with one log: heats of 4, 2, 1, 0", 6, few.shiversUntilDawn(0));
        e.hikerEdges(44, "shiversUntilDawn", HutLedger::shiversUntilDawn);
    }

    private void paymentAtDawn() {
        e.of(45, "Predicts what a hiker must pay at the next dawn", "Returns the sum of the amounts, in coins or as a debt");
        int[] fees = {0, 1, 1, 1, 2, 2, 2, 3, 3, 3};
        for (int thickness = 1; thickness <= 9; thickness++) {
            HutLedger x = Checks.hut("hut 0;bunks 0;blankets " + thickness + ";forecast 1;hiker 1 0 0;hiker 1 0 99;");
            e.same("the night alone", 3, x.paymentAtDawn(0));
            x.takeBlanket(0, 0);
            e.same("thickness " + thickness + ", as a debt", 3 + fees[thickness], x.paymentAtDawn(0));
            x.swapBlankets(0, 1);
            e.same("thickness " + thickness + ", in coins", 3 + fees[thickness], x.paymentAtDawn(1));
            e.same("without what comes of the pot", 3, x.paymentAtDawn(0));
        }
        HutLedger x = Edges.hut("hut 5;bunks 0;blankets;forecast 1;" + "hiker 1 0 0;".repeat(3), "burn 1;");
        for (int hour = 0; hour < 8; hour++) {
            for (int i = 0; i < 3; i++) {
                e.same("10 coins of three, in hour " + hour, 3 + (i == 0 ? 4 : 3), x.paymentAtDawn(i));
            }
            x.passHours(1);
        }
        e.same("after the dawn", 3, x.paymentAtDawn(0));
        for (int rate = 0; rate <= 3; rate++) {
            HutLedger night = Edges.hut("hut 99;bunks 0;blankets;forecast 1;hiker 1 0 0;", "burn " + rate + ";");
            e.same("logs for the whole night", 3 + 2 * 8 * rate, night.paymentAtDawn(0));
            night.passHours(6);
            e.same("two hours before the dawn", 3 + 2 * 8 * rate, night.paymentAtDawn(0));
        }
        HutLedger last = Edges.hut("hut 1;bunks 0;blankets;forecast 1;hiker 1 0 0;", "pass 7;burn 1;");
        e.same("in the last hour of the night", 5, last.paymentAtDawn(0));
        last.setRate(0);
        e.same("without a fire", 3, last.paymentAtDawn(0));
        e.hikerEdges(45, "paymentAtDawn", HutLedger::paymentAtDawn);
    }

    private void debtAfter() {
        e.of(46, "- `hours`: 0 to 96", "Throws `IllegalArgumentException` if hours is out of range");
        e.argumentEdges("debtAfter(0, ..)", 0, 96, Edges.LONE_LIVED, (x, hours) -> x.debtAfter(0, hours));
        e.argumentEdges("debtAfter(9, ..)", 0, 96, Edges.CROWD_LIVED, (x, hours) -> x.debtAfter(9, hours));
        e.refused("debtAfter(10, 97)", Edges.INDEX, Edges.CROWD_LIVED, x -> x.debtAfter(10, 97));
        e.refused("debtAfter(-1, -1)", Edges.INDEX, Edges.CROWD_LIVED, x -> x.debtAfter(-1, -1));
        e.of(46, "Predicts the debt of a hiker if only hours pass", "Returns the debt after these hours");
        for (int coins = 0; coins <= 40; coins++) {
            HutLedger x = Checks.hut(BARE + "hiker 1 0 " + coins + ";");
            for (int hours : new int[] {0, 1, 7, 8, 9, 15, 16, 17, 95, 96}) {
                e.same("debtAfter " + hours + " with " + coins, Math.max(0, 3 * (hours / 8) - coins), x.debtAfter(0, hours));
            }
        }
        HutLedger x = Edges.hut(BARE + "hiker 1 0 1;", "pass 15;");
        e.same("the debt now", 2, x.debtAfter(0, 0));
        e.same("an hour later it is dawn", 5, x.debtAfter(0, 1));
        e.same("12 dawns", 2 + 36, x.debtAfter(0, 96));
        e.hikerEdges(46, "debtAfter", (one, hiker) -> one.debtAfter(hiker, 0));
    }

    private void dawnsUntilDebt() {
        e.of(47, "Predicts at which dawn a hiker will first have a debt", "Returns 1 for the next dawn, 2 for the one after it");
        for (int coins = 0; coins <= 99; coins++) {
            HutLedger x = Checks.hut(BARE + "hiker 1 0 " + coins + ";");
            int due = coins < 36 ? coins / 3 + 1 : NONE;
            e.same("with " + coins + " coins", due, x.dawnsUntilDebt(0));
            x.passHours(7);
            e.same("an hour before the dawn", due, x.dawnsUntilDebt(0));
            x.passHours(1);
            int later = coins < 39 ? coins / 3 : NONE;
            e.same("after the dawn", later, x.dawnsUntilDebt(0));
        }
        HutLedger x = Edges.hut("hut 0;bunks 0;blankets 9;forecast 1;hiker 1 0 0;hiker 1 0 9;", "take 1 0;pass 8;");
        e.same("a debt now, but coins too", 0, x.dawnsUntilDebt(0));
        x.payDebt(0, 3);
        e.same("the debt is paid", 1, x.dawnsUntilDebt(0));
        e.hikerEdges(47, "dawnsUntilDebt", HutLedger::dawnsUntilDebt);
    }

    private void hoursUntilNoLogs() {
        e.of(48, "Predicts when the logs will be used up", "Returns the number of hours that must pass; 0 if there are no logs");
        for (int rate = 0; rate <= 3; rate++) {
            for (int logs = 0; logs <= 99; logs++) {
                HutLedger x = Edges.hut("hut " + logs + ";bunks 0;blankets;forecast 9;hiker 1 0 0;", "burn " + rate + ";");
                int hours = rate == 0 ? 97 * Math.min(logs, 1) : (logs + rate - 1) / rate;
                e.same(logs + " logs at a rate of " + rate, hours > 96 ? NONE : hours, x.hoursUntilNoLogs());
            }
        }
        HutLedger x = Edges.hut("hut 97;bunks 0;blankets;forecast 9;hiker 1 0 0;", "burn 1;");
        e.same("logs after each of 96 hours", NONE, x.hoursUntilNoLogs());
        x.passHours(1);
        e.same("96 hours", 96, x.hoursUntilNoLogs());
    }

    private void rateNeeded() {
        e.of(49, "Finds the smallest rate with which nobody would shiver", "Returns 0 to 3; NONE if no rate is sufficient");
        int[] due = {0, 0, 1, 1, 1, 1, 2, 2, 2, 2, 3, 3, 3, 3, NONE, NONE};
        for (int need = 8; need <= 23; need++) {
            for (int rate = 0; rate <= 3; rate++) {
                HutLedger x = Edges.hut("hut 99;bunks 0;blankets;forecast 9;hiker " + need + " 0 0;", "burn " + rate + ";");
                e.same("need " + need, due[need - 8], x.rateNeeded());
                x.setRate(0);
                x.passHours(7);
                e.same("need " + need + " in the last hour", due[need - 8], x.rateNeeded());
            }
        }
        HutLedger coldest = Checks.hut("hut 99;bunks 0;blankets;forecast 9;hiker 1 0 0;hiker 17 0 0;hiker 9 0 0;");
        e.same("the greatest need", 2, coldest.rateNeeded());
        HutLedger night = Checks.hut("hut 0;bunks 0;blankets;forecast 9 9 9 9 9 9 9 9 0 0 0 0;hiker 9 0 0;");
        e.same("the cold comes after the dawn", 0, night.rateNeeded());
        night.passHours(8);
        e.same("now it is there", NONE, night.rateNeeded());
        HutLedger frost = Checks.hut("hut 0;bunks 0;blankets;forecast 9 9 9 9 9 9 9 8;hiker 9 0 0;");
        e.same("the cold comes in the last hour", NONE, frost.rateNeeded());
    }

    private void rateNeededWithFewLogs() {
        e.of(49, "Finds the smallest rate with which nobody would shiver");
        String house = "hut #;bunks 0;blankets;forecast 9;hiker 13 0 0;";
        e.same("a log for each hour", 1, Checks.hut(house.replace("#", "8")).rateNeeded());
        e.same("a log is missing", NONE, Checks.hut(house.replace("#", "7")).rateNeeded());
        e.same("two logs are missing", NONE, Checks.hut(house.replace("#", "6")).rateNeeded());
        HutLedger last = Edges.hut(house.replace("#", "1"), "pass 7;");
        e.same("one log for the last hour", 1, last.rateNeeded());
        HutLedger none = Edges.hut(house.replace("#", "0"), "pass 7;");
        e.same("no log", NONE, none.rateNeeded());
        HutLedger hot = Edges.hut(house.replace("#", "3"), "burn 3;pass 1;pass 5;");
        e.same("no heat is left", NONE, hot.rateNeeded());
        HutLedger warm = Edges.hut(house.replace("#", "9"), "pass 4;burn 3;pass 3;");
        e.same("the heat of 21 lasts for the last hour", 0, warm.rateNeeded());
    }

    private void bestRate() {
        e.of(50, "Finds the rate with which the hikers would sleep most", "Returns the rate, 0 to 3, with the largest sum");
        int[] sufficient = {6, 6 + 4, 6 + 8, 6 + 23};
        for (int need = 5; need <= 29; need++) {
            HutLedger x = Edges.hut("hut 99;bunks 0;blankets;forecast 6;hiker " + need + " 0 0;", "lie 0 0;");
            int rate = 0;
            while (need > sufficient[rate]) {
                rate++;
            }
            e.same("need " + need, rate, x.bestRate());
            x.getUp(0);
            e.same("nobody in a bunk", 0, x.bestRate());
        }
        e.same("too cold at any rate", 0, Edges.hut("hut 99;bunks 0;blankets;forecast 6;hiker 30 0 0;", "lie 0 0;").bestRate());
        String few = "hut #;bunks 0;blankets;forecast 9;hiker 13 0 0;";
        e.same("four logs one by one", 1, Edges.hut(few.replace("#", "4"), "lie 0 0;").bestRate());
        e.same("no logs", 0, Edges.hut(few.replace("#", "0"), "lie 0 0;").bestRate());
        HutLedger last = Edges.hut(few.replace("#", "1"), "lie 0 0;pass 7;");
        e.same("one log for the last hour", 1, last.bestRate());
        HutLedger loud = Edges.hut("hut 99;bunks 0 0;blankets;forecast 9;hiker 1 0 0;hiker 14 7 0;", "lie 0 0;lie 1 1;burn 3;");
        e.same("who is warmed snores: as many sleep", 0, loud.bestRate());
        HutLedger both = Edges.hut("hut 99;bunks 0 0;blankets;forecast 9;hiker 1 0 0;hiker 14 6 0;", "lie 0 0;lie 1 1;");
        e.same("both sleep", 1, both.bestRate());
    }

    private void predictionsBeyondTheLastHour() {
        e.of(43, "Returns the temperature after these hours");
        HutLedger x = Edges.old();
        int[] outside = {4, 6, 3, 1, 4};
        for (int hours = 0; hours < outside.length; hours++) {
            e.same("temperatureAfter(" + hours + ") at 9999", outside[hours], x.temperatureAfter(hours));
        }
        int debt = 3 * 1249 - 12;
        e.same("debtAfter(0, 0)", debt, x.debtAfter(0, 0));
        e.same("debtAfter(0, 1)", debt + 3, x.debtAfter(0, 1));
        e.same("debtAfter(0, 96)", debt + 36, x.debtAfter(0, 96));
        e.same("shiversUntilDawn(0)", 1, x.shiversUntilDawn(0));
        e.same("paymentAtDawn(0)", 3, x.paymentAtDawn(0));
        e.same("dawnsUntilDebt(0)", 0, x.dawnsUntilDebt(0));
        e.same("hoursUntilNoLogs", NONE, x.hoursUntilNoLogs());
        e.same("rateNeeded", 2, x.rateNeeded());
        e.same("bestRate", 0, x.bestRate());
        x.setRate(3);
        e.same("hoursUntilNoLogs", 7, x.hoursUntilNoLogs());
        e.same("paymentAtDawn(0), two coins of six", 3 + 2, x.paymentAtDawn(0));
        e.same("paymentAtDawn(2), one coin of six", 3 + 1, x.paymentAtDawn(2));
        e.same("temperatureAfter(1)", 6 + 12, x.temperatureAfter(1));
    }

    private void predictionsChangeNothing() {
        e.of(44, "Predicts how often a hiker will shiver until the next dawn");
        e.onlyAsks("totals", Edges.CROWD_LIVED, x -> {
            x.hutCoins();
            x.burnedLogs();
            x.totalDebt();
            x.auditDifference();
            x.meanWarmth();
            x.sleepShare();
        });
        e.onlyAsks("temperatureAfter", Edges.CROWD_LIVED, x -> x.temperatureAfter(96));
        e.onlyAsks("shiversUntilDawn", Edges.CROWD_LIVED, x -> x.shiversUntilDawn(9));
        e.onlyAsks("paymentAtDawn", Edges.CROWD_LIVED, x -> x.paymentAtDawn(9));
        e.onlyAsks("debtAfter", Edges.CROWD_LIVED, x -> x.debtAfter(9, 96));
        e.onlyAsks("dawnsUntilDebt", Edges.CROWD_LIVED, x -> x.dawnsUntilDebt(9));
        e.onlyAsks("hoursUntilNoLogs", Edges.CROWD_LIVED, HutLedger::hoursUntilNoLogs);
        e.onlyAsks("rateNeeded", Edges.CROWD_LIVED, HutLedger::rateNeeded);
        e.onlyAsks("bestRate", Edges.CROWD_LIVED, HutLedger::bestRate);
    }
}
