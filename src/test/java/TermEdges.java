import java.util.function.Consumer;
import java.util.function.Supplier;

/** The edges of what the part "Terms" says of the hut, of an hour, of a dawn and of actions. */
final class TermEdges {
    private static final int NONE = HutLedger.NONE;
    private static final String TWELVE = " 1 1 1 1 1 1 1 1 1 1 1 1";
    private static final String TABLE = "hut 0;bunks 0;blankets;forecast 1;";

    private final Edges e;

    TermEdges(Edges e) {
        this.e = e;
    }

    void run() {
        bunks();
        heights();
        blankets();
        usersOfBlankets();
        hikers();
        numbersOfHikers();
        stove();
        weather();
        warmth();
        cold();
        noise();
        logsOfAnHour();
        heatOfAnHour();
        whatHappens();
        hourAndDawn();
        night();
        costOfTheLogs();
        partsOfTheCost();
        feesForBlankets();
        pot();
        orderOfADawn();
        actions();
        sixActions();
        severalExceptions();
        constants();
    }

    // ---- bunks and blankets

    private void bunks() {
        e.of("Terms", "There are 1 to 12 bunks in one row, numbered from 0");
        e.rightSetup(1, "hut 0;bunks 0;blankets;forecast 0;hiker 1 0 0;");
        e.rightSetup(1, "hut 0;bunks" + TWELVE + ";blankets;forecast 0;hiker 1 0 0;");
        e.wrongSetup(1, "hut 0;bunks^;blankets;forecast 0;hiker 1 0 0;");
        e.wrongSetup(3, "hut 0;bunks" + TWELVE + " ^1;blankets;forecast 0;hiker 1 0 0;");
        e.bunkEdges("hikerIn", HutLedger::hikerIn);
        HutLedger row = Edges.hut("hut 0;bunks" + " 0".repeat(12) + ";blankets;forecast 9;" + "hiker 1 8 0;".repeat(3),
                "lie 0 0;lie 1 11;lie 2 10;");
        int[] noises = {0, 8, 4, 0, 0, 0, 0, 0, 4, 12, 8, 8};
        for (int bunk = 0; bunk < 12; bunk++) {
            e.same("noiseIn(" + bunk + "), the first is not beside the last", noises[bunk], row.noiseIn(bunk));
        }
        e.same("warmth(0)", 9, row.warmth(0));
        e.same("warmth(1)", 10, row.warmth(1));
        e.same("longestRow", 2, row.longestRow());
        e.of("Terms", "At most one hiker lies in a bunk");
        e.refused("lieDown(1, 0)", Edges.STATE, Edges.CROWD_LIVED, x -> x.lieDown(1, 0));
        e.refused("lieDown(8, 11)", Edges.STATE, Edges.CROWD_LIVED, x -> x.lieDown(8, 11));
        HutLedger x = Edges.hut(Edges.CROWD, "lie 0 0;rise 0;lie 1 0;");
        e.same("hikerIn(0)", 1, x.hikerIn(0));
    }

    private void heights() {
        e.of("Terms", "A bunk has a height (0 to 5)");
        HutLedger x = Checks.hut("hut 0;bunks 0 5;blankets;forecast 7;hiker 1 0 0;");
        x.lieDown(0, 0);
        e.same("warmth", 7, x.warmth(0));
        x.lieDown(0, 1);
        e.same("warmth", 12, x.warmth(0));
        e.wrongSetup(2, "hut 0;bunks ^6;");
        e.wrongSetup(2, "hut 0;bunks 0 5 ^6;");
        e.wrongSetup(1, "hut 0;bunks ^-1;");
    }

    private void blankets() {
        e.of("Terms", "There are at most 12 blankets, numbered from 0");
        HutLedger none = Checks.hut(TABLE + "hiker 1 0 0;");
        e.same("pileSize", 0, none.pileSize());
        HutLedger twelve = Checks.hut(Edges.CROWD);
        e.same("pileSize", 12, twelve.pileSize());
        e.same("userOf(11)", NONE, twelve.userOf(11));
        e.wrongSetup(3, "hut 0;bunks 0;blankets" + TWELVE + " ^1;");
        e.blanketEdges("userOf", HutLedger::userOf);
        e.of("Terms", "A blanket has a thickness (1 to 9)");
        HutLedger x = Checks.hut("hut 0;bunks 0;blankets 1 9;forecast 7;hiker 1 0 0;");
        e.same("takeBlanket(0, 0)", 8, x.takeBlanket(0, 0));
        e.same("takeBlanket(0, 1)", 16, x.takeBlanket(0, 1));
        e.wrongSetup(2, "hut 0;bunks 0;blankets ^0;");
        e.wrongSetup(2, "hut 0;bunks 0;blankets ^10;");
        e.wrongSetup(2, "hut 0;bunks 0;blankets 1 9 ^0;");
    }

    private void usersOfBlankets() {
        e.of("Terms", "At first all blankets lie on the pile");
        for (String setup : new String[] {Edges.FIRST, Edges.CROWD}) {
            HutLedger x = Edges.hut(Edges.CROWD, "take 0 0;take 9 11;");
            Checks.type(x, setup);
            x.loadSetup();
            int blankets = x.pileSize();
            e.same("pileSize", setup.equals(Edges.FIRST) ? 3 : 12, blankets);
            for (int blanket = 0; blanket < blankets; blanket++) {
                e.same("userOf(" + blanket + ")", NONE, x.userOf(blanket));
            }
        }
        e.of("Terms", "It lies on the pile or is used by one hiker");
        e.refused("takeBlanket(1, 0)", Edges.STATE, Edges.CROWD_LIVED, x -> x.takeBlanket(1, 0));
        e.refused("takeBlanket(0, 0)", Edges.STATE, Edges.CROWD_LIVED, x -> x.takeBlanket(0, 0));
        HutLedger x = Edges.CROWD_LIVED.get();
        e.same("pileSize", 10, x.pileSize());
        x.takeBlanket(0, 8);
        e.same("pileSize", 10, x.pileSize());
        e.same("userOf(0)", NONE, x.userOf(0));
        e.same("userOf(8)", 0, x.userOf(8));
    }

    // ---- hikers

    private void hikers() {
        e.of("Terms", "There are 1 to 10 hikers, numbered from 0");
        e.rightSetup(1, TABLE + "hiker 1 0 0;");
        e.rightSetup(10, TABLE + "hiker 1 0 0;".repeat(10));
        e.wrongSetup(1, TABLE + "^");
        e.wrongSetup(3, TABLE + "hiker 1 0 0;".repeat(10) + "^hiker 1 0 0;");
        e.of("Terms", "A hiker lies in a bunk or sits at the table; at first all sit at the table");
        for (int i = 0; i < 10; i++) {
            HutLedger x = Checks.hut(Edges.CROWD);
            e.same("bunkOf", NONE, x.bunkOf(i));
            x.lieDown(i, 11 - i);
            e.same("bunkOf", 11 - i, x.bunkOf(i));
            e.same("hikerIn", i, x.hikerIn(11 - i));
            x.lieDown(i, 0);
            e.same("bunkOf", 0, x.bunkOf(i));
            e.same("hikerIn", NONE, x.hikerIn(11 - i));
            x.getUp(i);
            e.same("bunkOf", NONE, x.bunkOf(i));
            e.same("longestRow", 0, x.longestRow());
        }
    }

    private void numbersOfHikers() {
        e.of("Terms", "A hiker has a need of warmth (1 to 30), a snore (0 to 9), coins (0 to 99 at first)");
        e.wrongSetup(2, TABLE + "hiker ^0 0 0;");
        e.wrongSetup(2, TABLE + "hiker ^31 0 0;");
        e.wrongSetup(2, TABLE + "hiker 30 ^10 0;");
        e.wrongSetup(2, TABLE + "hiker 30 9 ^100;");
        HutLedger x = Checks.hut("hut 0;bunks 0 0 0;blankets;forecast 1;hiker 1 9 99;hiker 2 0 0;hiker 30 0 1;");
        e.same("the lowest need", HutLedger.WAITS, x.activity(0));
        e.same("a need of 2", HutLedger.SHIVERS, x.activity(1));
        e.same("the greatest need", HutLedger.SHIVERS, x.activity(2));
        x.lieDown(0, 1);
        e.same("the greatest snore", 9, x.noiseIn(0));
        x.lieDown(1, 2);
        e.same("the greatest coins", 99, x.coinsOf(0));
        e.same("no coins", 0, x.coinsOf(1));
        for (int i = 0; i < 3; i++) {
            e.same("debtOf at first", 0, x.debtOf(i));
        }
        HutLedger warm = Edges.hut("hut 9;bunks 0 0;blankets;forecast 20;hiker 28 0 0;hiker 29 0 0;",
                "burn 2;pass 1;lie 0 0;");
        e.same("28 degrees", HutLedger.SLEEPS, warm.activity(0));
        e.same("28 degrees", HutLedger.SHIVERS, warm.activity(1));
        e.same("no snore", 0, warm.noiseIn(1));
    }

    // ---- stove and weather

    private void stove() {
        e.of("Terms", "The hut has logs (0 to 99)");
        e.same("logs", 0, Checks.hut("hut 0;bunks 0;blankets;forecast 0;hiker 1 0 0;").logs());
        e.same("logs", 99, Checks.hut("hut 99;bunks 0;blankets;forecast 0;hiker 1 0 0;").logs());
        e.wrongSetup(2, "hut ^100;bunks 0;");
        e.of("Terms", "The rate (0 to 3, at first 0)");
        for (int rate = 0; rate <= 3; rate++) {
            HutLedger x = new HutLedger();
            e.same("the rate at first", 0, x.setRate(rate));
            x.passHours(1);
            e.same("logs", 20 - rate, x.logs());
        }
        e.argumentEdges("setRate", 0, 3, Edges.CROWD_LIVED, HutLedger::setRate);
        e.of("Terms", "The heat of the stove is 0 at first");
        HutLedger x = Edges.hut(Edges.FIRST, "burn 3;pass 5;");
        e.same("heat", 23 + 3, x.temperature());
        Checks.type(x, Edges.FIRST);
        x.loadSetup();
        e.same("temperature", 6, x.temperature());
        e.same("temperatureAfter(1)", 3, x.temperatureAfter(1));
    }

    private void weather() {
        e.of("Terms", "The forecast is a sequence of 1 to 12 temperatures (0 to 20)");
        e.same("the lowest", 0, Checks.hut("hut 0;bunks 0;blankets;forecast 0;hiker 1 0 0;").temperature());
        e.same("the highest", 20, Checks.hut("hut 0;bunks 0;blankets;forecast 20;hiker 1 0 0;").temperature());
        e.wrongSetup(2, "hut 0;bunks 0;blankets;forecast ^21;");
        e.wrongSetup(2, "hut 0;bunks 0;blankets;forecast 20 ^21;");
        e.wrongSetup(1, "hut 0;bunks 0;blankets;forecast^;");
        e.wrongSetup(3, "hut 0;bunks 0;blankets;forecast" + TWELVE + " ^1;");
        e.of("Terms", "The temperature outside in an hour is the number of the forecast at the position");
        StringBuilder forecast = new StringBuilder();
        for (int length = 1; length <= 12; length++) {
            forecast.append(' ').append(8 + length);
            HutLedger x = Checks.hut("hut 0;bunks 0;blankets;forecast" + forecast + ";hiker 1 0 0;");
            for (int hour = 0; hour <= 25; hour++) {
                e.same("temperature in hour " + hour, 9 + hour % length, x.temperature());
                e.same("temperatureAfter(" + length + ")", 9 + hour % length, x.temperatureAfter(length));
                x.passHours(1);
            }
        }
        e.same("temperature in hour 9999", 4, Edges.old().temperature());
        e.of("Terms", "The temperature inside is the temperature outside in the present hour plus the heat");
        HutLedger x = Edges.hut("hut 99;bunks 0;blankets;forecast 20 0;hiker 1 0 0;", "burn 3;pass 6;");
        e.same("the highest", 43, x.temperature());
        x.passHours(1);
        e.same("temperature", 23, x.temperature());
    }

    // ---- warmth and noise

    private void warmth() {
        e.of("Terms", "The warmth of a hiker is the temperature inside, plus the thickness");
        HutLedger low = Edges.hut("hut 0;bunks 0;blankets;forecast 0;hiker 1 0 0;", "lie 0 0;");
        e.same("the lowest", 0, low.warmth(0));
        String setup = "hut 99;bunks 0 5 0 0;blankets 9;forecast 20;" + "hiker 1 0 0;".repeat(3);
        HutLedger x = Edges.hut(setup, "burn 3;pass 6;take 0 0;");
        e.same("at the table", 43 + 9, x.warmth(0));
        x.lieDown(0, 1);
        e.same("alone", 43 + 9 + 5, x.warmth(0));
        x.lieDown(1, 3);
        e.same("two bunks away is not beside", 43 + 9 + 5, x.warmth(0));
        x.lieDown(1, 2);
        e.same("one neighbour", 43 + 9 + 5 + 1, x.warmth(0));
        e.same("the neighbour", 43 + 1, x.warmth(1));
        x.lieDown(2, 0);
        e.same("the highest: two neighbours", 43 + 9 + 5 + 2, x.warmth(0));
        e.same("in the first bunk", 43 + 1, x.warmth(2));
        x.getUp(0);
        e.same("nothing of the neighbours at the table", 43 + 9, x.warmth(0));
        e.same("no neighbour any more", 43, x.warmth(2));
    }

    private void cold() {
        e.of("Terms", "A hiker is cold if the warmth is less than the need");
        HutLedger x = Checks.hut("hut 0;bunks 0;blankets 1;forecast 9;hiker 8 0 0;hiker 9 0 0;hiker 10 0 0;");
        e.same("warmer", HutLedger.WAITS, x.activity(0));
        e.same("as warm", HutLedger.WAITS, x.activity(1));
        e.same("less warm", HutLedger.SHIVERS, x.activity(2));
        e.same("coldHikers", 1, x.coldHikers());
        x.takeBlanket(2, 0);
        e.same("as warm", HutLedger.WAITS, x.activity(2));
        e.same("coldHikers", 0, x.coldHikers());
        e.of("Terms", "Only hikers who are not cold snore");
        HutLedger y = Checks.hut("hut 0;bunks 0 0 0;blankets;forecast 9;hiker 9 7 0;hiker 10 6 0;");
        y.lieDown(0, 0);
        e.same("as warm as needed", 7, y.noiseIn(1));
        y.lieDown(0, 2);
        y.lieDown(1, 0);
        e.same("one is cold", 7, y.noiseIn(1));
        y.getUp(0);
        e.same("cold", 0, y.noiseIn(1));
        e.same("warmed by the neighbour", 6, y.lieDown(0, 1));
    }

    private void noise() {
        e.of("Terms", "The noise in a bunk is the sum of the snores of all hikers in the neighbouring bunks");
        String bunks = "hut 0;bunks 0 0 0 0 0 0 0;blankets;forecast 9;";
        HutLedger loud = Edges.hut(bunks + "hiker 1 9 0;".repeat(5), "lie 0 1;lie 1 2;lie 2 4;lie 3 5;");
        int[] noises = {9 + 4, 9, 9 + 4, 18 + 9, 9 + 4, 9, 9 + 4};
        for (int bunk = 0; bunk < noises.length; bunk++) {
            e.same("noiseIn(" + bunk + ")", noises[bunk], loud.noiseIn(bunk));
        }
        e.same("the greatest", 27, loud.lieDown(4, 3));
        int[][] far = {{0, 0, 0}, {0, 1, 0}, {1, 1, 1}, {2, 0, 1}, {1, 2, 1}, {3, 0, 1}, {3, 1, 2}, {9, 8, 8}, {9, 9, 9}};
        for (int[] two : far) {
            HutLedger x = Edges.hut(bunks + "hiker 1 " + two[0] + " 0;hiker 1 " + two[1] + " 0;", "lie 0 1;lie 1 5;");
            e.same("half of " + two[0] + " + " + two[1], two[2], x.noiseIn(3));
            e.same("the other one is three bunks away", two[1], x.noiseIn(4));
            e.same("the other one is three bunks away", two[0], x.noiseIn(2));
        }
        HutLedger x = Edges.hut(bunks + "hiker 1 9 0;", "lie 0 3;");
        int[] one = {0, 4, 9, 0, 9, 4, 0};
        for (int bunk = 0; bunk < one.length; bunk++) {
            e.same("noiseIn(" + bunk + ") of one snorer", one[bunk], x.noiseIn(bunk));
        }
    }

    // ---- one hour

    private void logsOfAnHour() {
        e.of("Terms", "When an hour passes, the following happens in this order", "Logs are burned, as many as the rate");
        for (int logs = 0; logs <= 5; logs++) {
            for (int rate = 0; rate <= 3; rate++) {
                HutLedger x = Edges.hut("hut " + logs + ";bunks 0;blankets;forecast 0;hiker 1 0 99;", "burn " + rate + ";");
                int burned = Math.min(rate, logs);
                x.passHours(1);
                e.same("logs", logs - burned, x.logs());
                e.same("burnedLogs", burned, x.burnedLogs());
                e.same("heat", 4 * burned, x.temperature());
                x.passHours(7);
                e.same("the cost of them", 3 + 2 * Math.min(8 * rate, logs), 99 - x.coinsOf(0));
                e.same("logs", Math.max(0, logs - 8 * rate), x.logs());
            }
        }
    }

    private void heatOfAnHour() {
        e.of("Terms", "The heat becomes half of the heat, rounded down, plus 4 for each log");
        int[][] heats = {{0, 0, 0, 0, 0, 0}, {4, 6, 7, 7, 7, 7}, {8, 12, 14, 15, 15, 15}, {12, 18, 21, 22, 23, 23}};
        int[][] cooling = {{0, 0, 0, 0, 0, 0}, {3, 1, 0, 0, 0, 0}, {7, 3, 1, 0, 0, 0}, {11, 5, 2, 1, 0, 0}};
        for (int rate = 0; rate <= 3; rate++) {
            HutLedger x = Edges.hut("hut 99;bunks 0;blankets;forecast 0;hiker 1 0 0;", "burn " + rate + ";");
            for (int hour = 0; hour < 6; hour++) {
                e.same("temperatureAfter", heats[rate][hour], x.temperatureAfter(1));
                x.passHours(1);
                e.same("temperature", heats[rate][hour], x.temperature());
            }
            x.setRate(0);
            for (int hour = 0; hour < 6; hour++) {
                x.passHours(1);
                e.same("cooling", cooling[rate][hour], x.temperature());
            }
        }
    }

    private void whatHappens() {
        e.of("Terms", "For every hiker, what happens is determined by the warmth and the noise as they are now");
        String bunks = "hut 9;bunks 0 0 0;blankets;forecast 9 0;";
        for (int snore = 5; snore <= 8; snore++) {
            HutLedger x = Edges.hut(bunks + "hiker 9 0 0;hiker 9 " + snore + " 0;", "lie 0 0;lie 1 1;");
            x.passHours(1);
            e.same("noise " + snore, 1, x.hoursOf(0, snore > 6 ? HutLedger.LIES_AWAKE : HutLedger.SLEEPS));
            e.same("no noise", 1, x.hoursOf(1, HutLedger.SLEEPS));
            x.passHours(1);
            e.same("colder in the second hour", 1, x.hoursOf(0, HutLedger.SHIVERS));
        }
        HutLedger cold = Edges.hut(bunks + "hiker 30 0 0;hiker 9 9 0;hiker 9 0 0;hiker 10 0 0;", "lie 0 0;lie 1 1;pass 1;");
        e.same("a cold hiker shivers in any noise", 1, cold.hoursOf(0, HutLedger.SHIVERS));
        e.same("at the table, not cold", 1, cold.hoursOf(2, HutLedger.WAITS));
        e.same("at the table, cold", 1, cold.hoursOf(3, HutLedger.SHIVERS));
        HutLedger fire = Edges.hut(bunks + "hiker 13 0 0;hiker 14 0 0;", "burn 1;");
        e.same("before the fire", HutLedger.SHIVERS, fire.activity(0));
        fire.passHours(1);
        e.same("the fire of this hour warms", 1, fire.hoursOf(0, HutLedger.WAITS));
        e.same("but one degree is missing", 1, fire.hoursOf(1, HutLedger.SHIVERS));
        HutLedger thaw = Edges.hut(bunks + "hiker 13 0 0;hiker 13 9 0;", "lie 0 0;lie 1 1;burn 1;pass 1;");
        e.same("who is warmed snores in the same hour", 1, thaw.hoursOf(0, HutLedger.LIES_AWAKE));
    }

    private void hourAndDawn() {
        e.of("Terms", "The hour number grows by 1", "If it is divisible by 8 now, it is dawn");
        HutLedger x = Checks.hut(TABLE + "hiker 1 0 99;");
        for (int hour = 1; hour <= 33; hour++) {
            e.same("passHours(1)", hour % 8 == 0 ? 3 : 0, x.passHours(1));
            e.same("hour", hour, x.hour());
            e.same("coins", 99 - 3 * (hour / 8), x.coinsOf(0));
        }
        e.same("the debt after 1249 dawns", 1249 * 3 - 12, Edges.old().debtOf(0));
    }

    // ---- dawn

    private static String coins(HutLedger x) {
        return Checks.ledger(x).replaceAll("/\\d+", "");
    }

    private void night() {
        e.of("Terms", "Every hiker must pay 3 coins to the hut for the night",
                "A hiker who must pay an amount pays as many coins as there are", "The hikers pay by increasing numbers");
        HutLedger x = Checks.hut(TABLE + "hiker 1 0 0;hiker 1 0 2;hiker 1 0 3;hiker 1 0 4;");
        e.same("passHours(8)", 0 + 2 + 3 + 3, x.passHours(8));
        e.same("coins and debts", "a=0-3 b=0-1 c=0 d=1", coins(x));
        e.same("passHours(8)", 1, x.passHours(8));
        e.same("coins and debts", "a=0-6 b=0-4 c=0-3 d=0-2", coins(x));
        e.same("a debt is not paid at dawn", 0, x.passHours(8));
    }

    private void costOfTheLogs() {
        e.of("Terms", "The cost of the logs is 2 coins for each log");
        String setup = "hut 9;bunks 0;blankets;forecast 1;hiker 1 0 99;";
        HutLedger x = Edges.hut(setup, "burn 1;");
        e.same("eight logs", 3 + 16, x.passHours(8));
        x.setRate(0);
        e.same("paid once", 3, x.passHours(8));
        HutLedger last = Edges.hut(setup, "pass 7;burn 1;");
        e.same("in the last hour of a night", 3 + 2, last.passHours(1));
        e.same("in the first hour of the next", 0, last.passHours(1));
        last.setRate(0);
        e.same("in the first hour of the next", 3 + 2, last.passHours(7));
        HutLedger loaded = Edges.hut(setup, "burn 1;pass 7;");
        Checks.type(loaded, setup);
        loaded.loadSetup();
        e.same("since the setup was loaded", 3, loaded.passHours(8));
        HutLedger few = Edges.hut(setup, "burn 3;");
        e.same("not more than there were", 3 + 18, few.passHours(8));
        HutLedger undone = Edges.hut(setup, "burn 1;pass 1;");
        undone.undo();
        undone.setRate(0);
        e.same("not what was undone", 3, undone.passHours(8));
    }

    private void partsOfTheCost() {
        e.of("Terms", "Every hiker must pay the same part of it, rounded down");
        String[] three = {"a=6 b=6 c=6", "a=5 b=5 c=6", "a=4 b=5 c=5", "a=4 b=4 c=4", "a=3 b=3 c=4"};
        for (int logs = 0; logs < three.length; logs++) {
            String setup = TABLE.replace("hut 0", "hut " + logs) + "hiker 1 0 9;".repeat(3);
            e.same(logs + " logs", three[logs], coins(Edges.hut(setup, "burn 3;pass 8;")));
        }
        String ten = "hut 9;bunks 0;blankets;forecast 1;" + "hiker 1 0 9;".repeat(10);
        HutLedger x = Edges.hut(ten, "burn 3;pass 8;");
        e.same("18 coins of ten", "a=4 b=4 c=4 d=4 e=4 f=4 g=4 h=4 i=5 j=5", coins(x));
        e.same("hutCoins", 30 + 18, x.hutCoins());
        HutLedger one = Edges.hut("hut 1;bunks 0;blankets;forecast 1;hiker 1 0 9;", "burn 1;pass 8;");
        e.same("all of it is the part of one", "a=4", coins(one));
    }

    private void feesForBlankets() {
        e.of("Terms", "Every hiker who uses a blanket must pay a third of its thickness, rounded up");
        int[] fees = {0, 1, 1, 1, 2, 2, 2, 3, 3, 3};
        for (int thickness = 1; thickness <= 9; thickness++) {
            String setup = "hut 0;bunks 0;blankets " + thickness + ";forecast 1;hiker 1 0 9;hiker 1 0 9;";
            HutLedger x = Edges.hut(setup, "take 0 0;pass 8;");
            e.same("thickness " + thickness, 6 - fees[thickness], x.coinsOf(0));
            e.same("thickness " + thickness, 6 + fees[thickness], x.coinsOf(1));
        }
    }

    private void pot() {
        String blankets = "hut 0;bunks 0;blankets 9 8;forecast 1;";
        e.of("Terms", "Only what is paid in coins comes into the pot");
        String[] poor = {"a=0-3 b=0", "a=0-2 b=1", "a=0-1 b=2", "a=0 b=3", "a=1 b=3"};
        for (int more = 0; more < poor.length; more++) {
            HutLedger x = Edges.hut(blankets + "hiker 1 0 " + (3 + more) + ";hiker 1 0 3;", "take 0 0;pass 8;");
            e.same("with " + more + " coins for it", poor[more], coins(x));
            e.same("hutCoins", 6, x.hutCoins());
        }
        e.of("Terms", "If there are hikers without a blanket, each of them gets the same part of the pot");
        int[] parts = {0, 3, 1, 1, 0};
        int[] rests = {0, 0, 1, 0, 3};
        for (int bare = 1; bare <= 4; bare++) {
            HutLedger x = Edges.hut(blankets + "hiker 1 0 9;" + "hiker 1 0 3;".repeat(bare), "take 0 0;pass 8;");
            for (int i = 1; i <= bare; i++) {
                e.same("of " + bare, parts[bare], x.coinsOf(i));
            }
            e.same("hutCoins", 3 * (bare + 1) + rests[bare], x.hutCoins());
        }
        HutLedger empty = Edges.hut(TABLE + "hiker 1 0 4;hiker 1 0 4;", "pass 8;");
        e.same("no blankets, nothing in the pot", "a=1 b=1", coins(empty));
        e.of("Terms", "If all hikers use blankets, the whole pot goes to the hut");
        HutLedger all = Edges.hut(blankets + "hiker 1 0 9;hiker 1 0 8;", "take 0 0;take 1 1;pass 8;");
        e.same("coins", "a=3 b=2", coins(all));
        e.same("hutCoins", 6 + 6, all.hutCoins());
        HutLedger alone = Edges.hut(blankets + "hiker 1 0 4;", "take 0 0;pass 8;");
        e.same("coins", "a=0-2", coins(alone));
        e.same("hutCoins", 4, alone.hutCoins());
    }

    private void orderOfADawn() {
        e.of("Terms", "At dawn, the following happens in this order");
        String[] due = {"a=0-5 b=5", "a=0-4 b=5", "a=0-3 b=5", "a=0-2 b=6", "a=0-1 b=7", "a=0 b=8"};
        for (int more = 0; more < due.length; more++) {
            String setup = "hut 1;bunks 0;blankets 9;forecast 1;hiker 1 0 " + (2 + more) + ";hiker 1 0 9;";
            HutLedger x = Edges.hut(setup, "take 0 0;burn 1;pass 8;");
            e.same("the night, then the logs, then the blanket", due[more], coins(x));
            e.same("hutCoins", Math.min(2 + more, 4) + 4, x.hutCoins());
        }
        HutLedger x = Edges.hut("hut 0;bunks 0;blankets 9;forecast 1;hiker 1 0 0;hiker 1 0 9;", "take 1 0;pass 8;");
        e.same("coins of the pot come last", "a=3-3 b=3", coins(x));
    }

    // ---- actions

    private static final String PAIR = "hut 9;bunks 1 2;blankets 9 1;forecast 1;hiker 1 4 0;hiker 1 0 6;";
    private static final Supplier<HutLedger> LIVED_PAIR = Edges.lived(PAIR, "take 1 0;lie 0 1;pass 8;");

    private void actions() {
        e.of("Terms", "The methods in the section \"actions\" are actions");
        canBeUndone("takeBlanket", x -> x.takeBlanket(0, 1));
        canBeUndone("returnBlanket", x -> x.returnBlanket(1));
        canBeUndone("swapBlankets", x -> x.swapBlankets(0, 1));
        canBeUndone("lieDown", x -> x.lieDown(1, 0));
        canBeUndone("getUp", x -> x.getUp(0));
        canBeUndone("setRate", x -> x.setRate(2));
        canBeUndone("the same rate", x -> x.setRate(0));
        canBeUndone("fetchLogs", x -> x.fetchLogs(1));
        canBeUndone("payDebt", x -> x.payDebt(0, 1));
        canBeUndone("passHours", x -> x.passHours(1));
        e.of("Terms", "An action that throws an exception changes nothing");
        e.refused("takeBlanket", Edges.STATE, LIVED_PAIR, x -> x.takeBlanket(1, 0));
        e.refused("returnBlanket", Edges.STATE, LIVED_PAIR, x -> x.returnBlanket(0));
        e.refused("swapBlankets", Edges.STATE, LIVED_PAIR, x -> x.swapBlankets(1, 1));
        e.refused("lieDown", Edges.STATE, LIVED_PAIR, x -> x.lieDown(1, 1));
        e.refused("getUp", Edges.STATE, LIVED_PAIR, x -> x.getUp(1));
        e.refused("setRate", Edges.ARGUMENT, LIVED_PAIR, x -> x.setRate(4));
        e.refused("fetchLogs", Edges.ARGUMENT, LIVED_PAIR, x -> x.fetchLogs(51));
        e.refused("payDebt", Edges.STATE, LIVED_PAIR, x -> x.payDebt(0, 4));
        e.refused("passHours", Edges.ARGUMENT, LIVED_PAIR, x -> x.passHours(49));
    }

    private void canBeUndone(String name, Consumer<HutLedger> action) {
        HutLedger x = LIVED_PAIR.get();
        String before = Portrait.of(LIVED_PAIR.get());
        action.accept(x);
        e.same("undo of " + name, 3, x.undo());
        e.same(name + " undone", before, Portrait.of(x));
    }

    private void sixActions() {
        e.of("Terms", "Every action that does not throw can be undone; the six most recent actions");
        for (int actions = 0; actions <= 20; actions++) {
            HutLedger x = Checks.hut("hut 0;bunks 0;blankets;forecast 0;hiker 1 0 0;");
            for (int i = 1; i <= actions; i++) {
                x.fetchLogs(1);
            }
            int most = Math.min(actions, 6);
            for (int left = most - 1; left >= 0; left--) {
                e.same("undo of " + actions, left, x.undo());
                e.same("the most recent one first", actions - most + left, x.logs());
            }
            e.same("undo", Edges.STATE.getName(), Checks.thrownBy(x::undo));
            e.same("logs", actions - most, x.logs());
        }
    }

    private void severalExceptions() {
        e.of("Terms", "If several exceptions apply to a call, the exception that is listed first is thrown");
        Supplier<HutLedger> made = Edges.lived(PAIR, "take 1 0;lie 0 1;fetch 50;fetch 40;pass 8;");
        e.refused("hoursOf(2, 4)", Edges.INDEX, made, x -> x.hoursOf(2, 4));
        e.refused("debtAfter(-1, 97)", Edges.INDEX, made, x -> x.debtAfter(-1, 97));
        e.refused("takeBlanket(2, 0)", Edges.INDEX, made, x -> x.takeBlanket(2, 0));
        e.refused("swapBlankets(2, 2)", Edges.INDEX, made, x -> x.swapBlankets(2, 2));
        e.refused("lieDown(2, 1)", Edges.INDEX, made, x -> x.lieDown(2, 1));
        e.refused("payDebt(2, 0)", Edges.INDEX, made, x -> x.payDebt(2, 0));
        e.refused("payDebt(-1, 99)", Edges.INDEX, made, x -> x.payDebt(-1, 99));
        e.refused("payDebt(1, 100)", Edges.ARGUMENT, made, x -> x.payDebt(1, 100));
        e.refused("fetchLogs(51)", Edges.ARGUMENT, made, x -> x.fetchLogs(51));
        e.refused("passHours(49)", Edges.ARGUMENT, Edges::old, x -> x.passHours(49));
        e.refused("restoreSnapshot(2)", Edges.ARGUMENT, made, x -> x.restoreSnapshot(2));
    }

    private void constants() {
        e.of("Terms", "The constants: `NONE = -1`: Returned where there is no such bunk, blanket, hiker, hour or byte");
        HutLedger x = Checks.hut("hut 1;bunks 0;blankets;forecast 0;hiker 1 0 0;");
        e.same("NONE", -1, HutLedger.NONE);
        e.same("no bunk", -1, x.bunkOf(0));
        e.same("no blanket", -1, x.blanketOf(0));
        e.same("no hiker", -1, x.hikerIn(0));
        e.same("no hour", -1, x.hoursUntilNoLogs());
        e.same("no byte", -1, x.outputByte(0));
        e.of("Terms", "What happens to a hiker: the hiker shivers");
        e.same("SHIVERS", 0, HutLedger.SHIVERS);
        e.same("activity", 0, x.activity(0));
        e.of("Terms", "What happens to a hiker: the hiker lies awake");
        HutLedger warm = Edges.hut("hut 0;bunks 0 0;blankets;forecast 9;hiker 1 7 0;hiker 1 0 0;hiker 1 0 0;", "lie 0 0;lie 1 1;");
        e.same("LIES_AWAKE", 1, HutLedger.LIES_AWAKE);
        e.same("activity", 1, warm.activity(1));
        e.of("Terms", "What happens to a hiker: the hiker sleeps");
        e.same("SLEEPS", 2, HutLedger.SLEEPS);
        e.same("activity", 2, warm.activity(0));
        e.of("Terms", "What happens to a hiker: the hiker waits at the table");
        e.same("WAITS", 3, HutLedger.WAITS);
        e.same("activity", 3, warm.activity(2));
        warm.passHours(1);
        for (int i = 0; i < 3; i++) {
            for (int activity = 0; activity < 4; activity++) {
                e.same("hoursOf", activity == new int[] {2, 1, 3}[i] ? 1 : 0, warm.hoursOf(i, activity));
            }
        }
    }
}
