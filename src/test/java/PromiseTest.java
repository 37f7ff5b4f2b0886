import java.util.NoSuchElementException;

/** For each promise of the document: ordinary inputs, the edges that it names, and wrong inputs. */
public final class PromiseTest {
    private static final Class<IndexOutOfBoundsException> INDEX = IndexOutOfBoundsException.class;
    private static final Class<IllegalArgumentException> ARGUMENT = IllegalArgumentException.class;
    private static final Class<IllegalStateException> STATE = IllegalStateException.class;
    private static final Class<NoSuchElementException> ELEMENT = NoSuchElementException.class;

    private static final String FIRST = "hut 20; bunks 0 1 3 1 0; blankets 3 5 2; forecast 6 3 1 4; "
            + "hiker 10 8 12; hiker 7 2 5; hiker 12 0 30; hiker 9 5 1;";

    private static final Checks c = new Checks();

    public static void main(String[] args) {
        texts();
        hut();
        blanketsAndHikers();
        fairness();
        totals();
        predictions();
        actions();
        outputUndoAndSnapshots();
        c.end("PromiseTest");
    }

    private static void texts() {
        promise1();
        promise2();
        promise3();
        promise4();
        setupRanges();
        setupErrors();
        promise5();
        scriptErrors();
        promises6And7();
    }

    // ---- a new object, and texts

    private static void promise1() {
        c.begin("promise 1");
        HutLedger x = new HutLedger();
        c.same("hour", 0, x.hour());
        c.same("logs", 20, x.logs());
        c.same("hikerCount", 4, x.hikerCount());
        c.same("pileSize", 3, x.pileSize());
        c.same("errorCode", 0, x.errorCode());
        c.same("errorPosition", -1, x.errorPosition());
        c.same("outputByte(0)", -1, x.outputByte(0));
        c.same("truncateText(0)", 0, x.truncateText(0));
        c.fails("truncateText(1)", ARGUMENT, () -> x.truncateText(1));
        c.fails("undo", STATE, x::undo);
        c.fails("restoreSnapshot(0)", STATE, () -> x.restoreSnapshot(0));
        c.fails("restoreSnapshot(1)", STATE, () -> x.restoreSnapshot(1));
        c.same("ledger", "a=12/0 b=5/0 c=30/0 d=1/0", Checks.ledger(x));
        c.same("bunks", "- - - - -", Checks.bunks(x));
        int[] forecast = {6, 3, 1, 4, 6};
        for (int i = 0; i < forecast.length; i++) {
            c.same("temperatureAfter " + i, forecast[i], x.temperatureAfter(i));
        }
        int[] heights = {0, 1, 3, 1, 0};
        for (int i = 0; i < heights.length; i++) {
            x.lieDown(0, i);
            c.same("warmth in bunk " + i, 6 + heights[i], x.warmth(0));
        }
        x.getUp(0);
        int[] thicknesses = {3, 5, 2};
        for (int i = 0; i < thicknesses.length; i++) {
            c.same("takeBlanket " + i, 6 + thicknesses[i], x.takeBlanket(1, i));
        }
        needsAndSnoresOfTheFirstHut();
    }

    private static void needsAndSnoresOfTheFirstHut() {
        int[] needs = {10, 7, 12, 9};
        int[] snores = {8, 2, 0, 5};
        HutLedger warm = new HutLedger();
        warm.setRate(3);
        warm.passHours(1);
        for (int i = 0; i < snores.length; i++) {
            warm.lieDown(i, 0);
            c.same("snore of " + i, snores[i], warm.noiseIn(1));
            warm.getUp(i);
        }
        for (int i = 0; i < needs.length; i++) {
            for (int temperature = needs[i] - 1; temperature <= needs[i]; temperature++) {
                HutLedger x = Checks.hut(FIRST.replace("6 3 1 4", "" + temperature));
                c.same("activity at " + temperature, temperature < needs[i] ? 0 : 3, x.activity(i));
                x.lieDown(i, 0);
                c.same("noise at " + temperature, temperature < needs[i] ? 0 : snores[i], x.noiseIn(1));
            }
        }
    }

    private static void promise2() {
        c.begin("promise 2");
        HutLedger x = new HutLedger();
        for (int length = 4; length <= 500; length += 4) {
            c.same("appendText", length, x.appendText(length < 500 ? 0x20202020 : 0x2020203b));
        }
        c.fails("appendText at 500", STATE, () -> x.appendText(0));
        c.same("length after the refusal", 500, x.truncateText(500));
        c.same("runScript", -1, x.runScript());
        c.same("the last byte is the least significant", 499, x.errorPosition());
        Checks.type(x, " ".repeat(500));
        x.truncateText(497);
        c.fails("appendText at 497", STATE, () -> x.appendText(0));
        x.truncateText(496);
        c.same("appendText at 496", 500, x.appendText(0));
        x.truncateText(0);
        c.same("burn 2;", 4, x.appendText('b' << 24 | 'u' << 16 | 'r' << 8 | 'n'));
        c.same("burn 2;", 8, x.appendText(' ' << 24 | '2' << 16 | ';' << 8 | ' '));
        c.same("runScript", 1, x.runScript());
        c.same("setRate", 2, x.setRate(0));
        x.appendText(0xa0203b20);
        c.same("runScript of a byte above 127", -1, x.runScript());
        c.same("errorPosition", 0, x.errorPosition());
    }

    private static void promise3() {
        c.begin("promise 3");
        HutLedger x = new HutLedger();
        c.fails("truncateText(-1)", ARGUMENT, () -> x.truncateText(-1));
        Checks.type(x, "burn 3;burn 2;AB");
        c.fails("truncateText(17)", ARGUMENT, () -> x.truncateText(17));
        c.fails("truncateText(-1)", ARGUMENT, () -> x.truncateText(-1));
        c.fails("truncateText(lowest)", ARGUMENT, () -> x.truncateText(Integer.MIN_VALUE));
        c.same("truncateText(16)", 16, x.truncateText(16));
        c.same("truncateText(14)", 14, x.truncateText(14));
        c.fails("truncateText(15)", ARGUMENT, () -> x.truncateText(15));
        c.same("truncateText(7)", 7, x.truncateText(7));
        c.same("runScript", 1, x.runScript());
        c.same("the first bytes stay", 3, x.setRate(0));
        c.same("truncateText(0)", 0, x.truncateText(0));
    }

    private static void promise4() {
        c.begin("promise 4");
        HutLedger x = new HutLedger();
        Checks.script(x, "take 0 0;lie 1 2;burn 3;pass 9;");
        x.saveSnapshot(1);
        int debt = x.totalDebt();
        Checks.type(x, "hut 7;bunks 2;blankets;forecast 9;hiker 9 1 4;hiker 8 0 99;");
        c.same("loadSetup", 2, x.loadSetup());
        c.same("ledger", "a=4/0 b=99/0", Checks.ledger(x));
        c.same("bunks", "-", Checks.bunks(x));
        c.same("hour", 0, x.hour());
        c.same("temperature", 9, x.temperature());
        c.same("logs", 7, x.logs());
        c.same("hutCoins", 0, x.hutCoins());
        c.same("burnedLogs", 0, x.burnedLogs());
        c.same("hoursOf", 0, x.hoursOf(0, 0) + x.hoursOf(1, 0) + x.hoursOf(1, 2));
        c.same("logs to be paid", 3, x.paymentAtDawn(0));
        c.same("auditDifference", 0, x.auditDifference());
        c.same("rate", 0, x.setRate(0));
        x.undo();
        c.fails("undo", STATE, x::undo);
        c.same("the buffer is empty", 0, x.truncateText(0));
        c.fails("the buffer is empty", ARGUMENT, () -> x.truncateText(1));
        x.setRate(2);
        Checks.type(x, "hut 8;bunks 2;blankets;forecast 9;hiker 0 1 4;");
        c.same("loadSetup of a wrong text", -1, x.loadSetup());
        c.fails("the buffer is empty", ARGUMENT, () -> x.truncateText(1));
        c.same("the hut does not change", "a=4/0 b=99/0", Checks.ledger(x));
        c.same("the hut does not change", 7, x.logs());
        c.same("undo after a wrong text", 0, x.undo());
        x.restoreSnapshot(1);
        c.same("the snapshot stays", 9, x.hour());
        c.same("the snapshot stays", debt, x.totalDebt());
    }

    private static void right(int hikers, String setup) {
        HutLedger x = new HutLedger();
        Checks.type(x, setup);
        c.same("loadSetup of " + setup, hikers, x.loadSetup());
        c.same("errorCode of " + setup, 0, x.errorCode());
        c.same("errorPosition of " + setup, -1, x.errorPosition());
    }

    private static void setupRanges() {
        c.begin("setup");
        right(4, FIRST);
        right(1, "hut 0;bunks 0;blankets;forecast 0;hiker 1 0 0;");
        right(1, "hut 99;bunks 5;blankets 1 9;forecast 20;hiker 30 9 99;");
        right(1, "hut00000000000000000099;bunks0;blankets;forecast0;hiker00001 0 0;");
        right(1, "\n hut\n\n0 ; bunks 0 ; blankets ; forecast 0 ; hiker 1 0 0 ; \n");
        String row = " 1 2 3 4 5 0 1 2 3 4 5";
        String many = "hut 1;bunks" + row + " 1;blankets 1 2 3 4 5 6 7 8 9 1 2 3;forecast" + row + " 20;";
        right(10, many + "hiker 1 0 0;".repeat(10));
        HutLedger x = Checks.hut(many + "hiker 1 0 0;".repeat(9) + "hiker 1 7 0;");
        c.same("lieDown", 0, x.lieDown(9, 11));
        c.same("takeBlanket", 1 + 1 + 3, x.takeBlanket(9, 11));
        c.same("temperatureAfter(11)", 20, x.temperatureAfter(11));
        c.same("noiseIn", 7, x.noiseIn(10));
    }

    private static void wrong(int code, int position, String setup) {
        HutLedger x = new HutLedger();
        Checks.type(x, setup);
        c.same("loadSetup of " + setup, -1, x.loadSetup());
        c.same("errorCode of " + setup, code, x.errorCode());
        c.same("errorPosition of " + setup, position, x.errorPosition());
    }

    private static void setupErrors() {
        c.begin("errors of a setup");
        wrong(1, 0, "");
        wrong(1, 3, " \n ");
        wrong(1, 0, "Hut 1;");
        wrong(1, 0, "huts 1;");
        wrong(1, 0, "hu");
        wrong(1, 0, "hutz 1;");
        wrong(1, 0, "ahut 1;");
        wrong(1, 0, "but 1;");
        wrong(1, 3, "hut{1;");
        wrong(1, 3, "hut`1;");
        wrong(1, 3, "hut/1;");
        wrong(1, 3, "hut:1;");
        wrong(1, 3, "hut");
        wrong(1, 4, "hut ;");
        wrong(1, 4, "hut -1;");
        wrong(1, 4, "hut x;");
        wrong(2, 4, "hut 100;");
        wrong(2, 4, "hut 4294967296;");
        wrong(2, 4, "hut 100000000000000000000000000000000000000");
        wrong(1, 6, "hut 1 ");
        wrong(1, 6, "hut 1 2;");
        wrong(1, 6, "hut 1;;bunks");
        wrong(1, 6, "hut 1;bunk 0;");
        wrong(1, 11, "hut 1;bunks;");
        wrong(2, 12, "hut 1;bunks 6;");
        wrong(1, 13, "hut 1;bunks 0");
        wrong(1, 13, "hut 1;bunks 0blankets");
        String twelve = " 1 1 1 1 1 1 1 1 1 1 1 1";
        wrong(3, 36, "hut 1;bunks" + twelve + " 1;");
        wrong(2, 36, "hut 1;bunks" + twelve + " 6;");
        wrong(1, 36, "hut 1;bunks" + twelve + " x;");
        wrong(2, 23, "hut 1;bunks 1;blankets 0;");
        wrong(2, 23, "hut 1;bunks 1;blankets 10;");
        wrong(3, 47, "hut 1;bunks 1;blankets" + twelve + " 9;");
        wrong(2, 47, "hut 1;bunks 1;blankets" + twelve + " 0;");
        wrong(1, 22, "hut 1;bunks 1;blankets\u00df;");
        wrong(1, 31, "hut 1;bunks 1;blankets;forecast;");
        wrong(2, 32, "hut 1;bunks 1;blankets;forecast 21;");
        wrong(3, 56, "hut 1;bunks 1;blankets;forecast" + twelve + " 20;");
        wrong(2, 56, "hut 1;bunks 1;blankets;forecast" + twelve + " 21;");
        String house = "hut 1;bunks 1;blankets;forecast 1;";
        wrong(1, 34, house);
        wrong(1, 35, house + " ");
        wrong(1, 34, house + "hikers 1 0 0;");
        wrong(1, 34, house + ";");
        wrong(2, 40, house + "hiker 0 0 0;");
        wrong(2, 40, house + "hiker 31 0 0;");
        wrong(2, 42, house + "hiker 1 10 0;");
        wrong(2, 44, house + "hiker 1 0 100;");
        wrong(1, 43, house + "hiker 1 0;");
        wrong(1, 45, house + "hiker 1 0 0");
        wrong(1, 46, house + "hiker 1 0 0 0;");
        wrong(1, 46, house + "hiker 1 0 0;take");
        wrong(1, 46, house + "hiker 1 0 0;\t");
        String ten = "hiker 1 0 0;".repeat(10);
        wrong(3, 154, house + ten + "hiker");
        wrong(3, 154, house + ten + "hiker 99");
        wrong(1, 154, house + ten + "hut");
        wrong(1, 154, house + ten + "7");
    }

    private static void promise5() {
        c.begin("promise 5");
        HutLedger x = new HutLedger();
        c.same("runScript of nothing", 0, x.runScript());
        c.same("runScript of blanks", 0, Checks.script(x, " \n\n "));
        c.same("each command", 9, Checks.script(x, "take 0 1;swap 0 3;lie 3 2;rise 3;return 3;burn 3;"
                + "fetch 50;pass 48;burn 0;"));
        c.same("bunks", "- - - - -", Checks.bunks(x));
        c.same("hour", 48, x.hour());
        c.same("logs", 0, x.logs());
        c.same("burnedLogs", 70, x.burnedLogs());
        c.fails("the buffer is empty", ARGUMENT, () -> x.truncateText(1));
        HutLedger y = new HutLedger();
        c.same("stops before the first that throws", 2, Checks.script(y, "lie 0 4;lie 1 3;lie 2 4;burn 3;"));
        c.same("errorCode", 0, y.errorCode());
        c.same("errorPosition", -1, y.errorPosition());
        c.same("what came after is not executed", 0, y.setRate(0));
        c.same("bunks", "- - - b a!", Checks.bunks(y));
        c.same("no such hiker", 0, Checks.script(y, "rise 9;burn 1;"));
        c.same("no such bunk", 0, Checks.script(y, "lie 0 11;burn 1;"));
        c.same("too many logs", 1, Checks.script(y, "fetch 50;fetch 50;"));
        c.same("a wrong text executes nothing", -1, Checks.script(y, "burn 1;burn 2;burn 4;"));
        c.fails("the buffer is empty", ARGUMENT, () -> y.truncateText(1));
        c.same("a wrong text executes nothing", 0, y.setRate(0));
        c.same("each command is an action", 3, Checks.script(y, "burn 1;burn 2;burn 3;"));
        y.undo();
        y.undo();
        c.same("each command is an action", 1, y.setRate(0));
        HutLedger poor = Checks.hut("hut 0;bunks 0;blankets 9 1;forecast 1;hiker 1 0 0;hiker 1 0 6;");
        c.same("pay", 4, Checks.script(poor, "take 1 0;pass 8;pay 0 1;pay 0 1;pay 0 2;"));
        c.same("ledger", "a=1-1/0 b=0/0", Checks.ledger(poor));
        c.same("30 commands", 30, Checks.script(x, "burn 1;".repeat(30)));
        HutLedger large = Checks.hut("hut 1;bunks" + " 0".repeat(12) + ";blankets" + " 1".repeat(12) + ";forecast 1;"
                + "hiker 1 0 0;".repeat(10));
        c.same("the greatest numbers", 7, Checks.script(large,
                "take 9 11;swap 9 8;lie 9 11;swap 8 9;rise 9;return 9;burn 0;swap 0 9;"));
        c.same("the lowest numbers", 6, Checks.script(large, "take 0 0;swap 0 1;lie 0 0;swap 1 0;fetch 1;pass 1;"));
        c.same("wrong now, but no errors", 0, Checks.script(large, "pay 9 99;pay 0 1;"));
        c.same("no blanks between", 2, Checks.script(x, "burn3;take0 1;"));
    }

    private static void wrongScript(int code, int position, String script) {
        HutLedger x = new HutLedger();
        c.same("runScript of " + script, -1, Checks.script(x, script));
        c.same("errorCode of " + script, code, x.errorCode());
        c.same("errorPosition of " + script, position, x.errorPosition());
        c.fails("undo after " + script, STATE, x::undo);
    }

    private static void scriptErrors() {
        c.begin("errors of a script");
        wrongScript(1, 0, ";");
        wrongScript(1, 0, "3;");
        wrongScript(1, 0, "hut;");
        wrongScript(1, 0, "takes 0 0;");
        wrongScript(1, 4, "take");
        wrongScript(1, 6, "take 0;");
        wrongScript(1, 8, "take 0 0");
        wrongScript(1, 9, "take 0 0 0;");
        wrongScript(2, 5, "take 10 0;");
        wrongScript(2, 7, "take 0 12;");
        wrongScript(2, 7, "return 10;");
        wrongScript(1, 9, "return 0 0;");
        wrongScript(2, 5, "swap 10 0;");
        wrongScript(2, 7, "swap 0 10;");
        wrongScript(2, 4, "lie 10 0;");
        wrongScript(2, 6, "lie 0 12;");
        wrongScript(2, 5, "rise 10;");
        wrongScript(2, 5, "burn 4;");
        wrongScript(2, 6, "fetch 0;");
        wrongScript(2, 6, "fetch 51;");
        wrongScript(2, 4, "pay 10 1;");
        wrongScript(2, 6, "pay 0 0;");
        wrongScript(2, 6, "pay 0 100;");
        wrongScript(1, 5, "pay 0;");
        wrongScript(2, 5, "pass 0;");
        wrongScript(2, 5, "pass 49;");
        wrongScript(1, 7, "pass 8;!");
        wrongScript(1, 6, "pass 8\0;");
        wrongScript(1, 6, "pass 8\u00e9;");
        wrongScript(2, 5, "pass 49A");
        wrongScript(1, 5, "pass A49");
        wrongScript(1, 7, "pass 8 pass 8;");
        String thirty = "burn 1;".repeat(30);
        wrongScript(3, 210, thirty + "burn 1;");
        wrongScript(3, 211, thirty + " pass");
        wrongScript(1, 210, thirty + "walk");
        wrongScript(1, 210, thirty + ";");
        wrongScript(2, 208, thirty.substring(0, 208) + "9");
    }

    private static void promises6And7() {
        c.begin("promises 6 and 7");
        HutLedger x = new HutLedger();
        c.same("errorCode", 0, x.errorCode());
        c.same("errorPosition", -1, x.errorPosition());
        Checks.script(x, "burn 4;");
        c.same("errorCode", 2, x.errorCode());
        c.same("errorPosition", 5, x.errorPosition());
        x.setRate(1);
        x.undo();
        x.saveSnapshot(0);
        x.restoreSnapshot(0);
        Checks.type(x, "hut");
        c.same("errorCode stays", 2, x.errorCode());
        c.same("errorPosition stays", 5, x.errorPosition());
        x.loadSetup();
        c.same("errorCode", 1, x.errorCode());
        c.same("errorPosition", 3, x.errorPosition());
        Checks.script(x, "burn 1;");
        c.same("errorCode", 0, x.errorCode());
        c.same("errorPosition", -1, x.errorPosition());
        Checks.script(x, "burn 1;".repeat(31));
        c.same("errorCode", 3, x.errorCode());
        Checks.type(x, FIRST);
        x.loadSetup();
        c.same("errorCode", 0, x.errorCode());
        c.same("errorPosition", -1, x.errorPosition());
    }

    // ---- the hut

    private static void hut() {
        promises8To11();
        promise12();
        promise13();
        promise14();
        promise15();
        promise16();
    }

    private static void promises8To11() {
        c.begin("promises 8 to 11");
        HutLedger x = new HutLedger();
        int[] untilDawn = {8, 7, 6, 5, 4, 3, 2, 1, 8, 7};
        for (int hour = 0; hour < untilDawn.length; hour++) {
            c.same("hour", hour, x.hour());
            c.same("hoursUntilDawn at " + hour, untilDawn[hour], x.hoursUntilDawn());
            x.passHours(1);
        }
        HutLedger y = new HutLedger();
        y.setRate(3);
        c.same("temperature", 6, y.temperature());
        int[] logs = {17, 14, 11, 8, 5, 2, 0, 0};
        int[] heat = {12, 18, 21, 22, 23, 23, 19, 9};
        int[] outside = {3, 1, 4, 6, 3, 1, 4, 6};
        for (int i = 0; i < logs.length; i++) {
            y.passHours(1);
            c.same("logs", logs[i], y.logs());
            c.same("temperature", heat[i] + outside[i], y.temperature());
        }
        y.fetchLogs(50);
        c.same("logs", 50, y.logs());
        c.same("logs", 99, Checks.hut(FIRST.replace("hut 20", "hut 99")).logs());
    }

    private static void promise12() {
        c.begin("promise 12");
        HutLedger x = new HutLedger();
        x.lieDown(3, 4);
        x.lieDown(0, 0);
        c.same("hikerIn(4)", 3, x.hikerIn(4));
        c.same("hikerIn(0)", 0, x.hikerIn(0));
        c.same("hikerIn(1)", -1, x.hikerIn(1));
        x.lieDown(0, 1);
        c.same("hikerIn(0)", -1, x.hikerIn(0));
        c.same("hikerIn(1)", 0, x.hikerIn(1));
        c.fails("hikerIn(5)", INDEX, () -> x.hikerIn(5));
        c.fails("hikerIn(-1)", INDEX, () -> x.hikerIn(-1));
        c.fails("hikerIn(highest)", INDEX, () -> x.hikerIn(Integer.MAX_VALUE));
    }

    private static void promise13() {
        c.begin("promise 13");
        HutLedger x = Checks.hut("hut 0;bunks 0 0 0 0 0;blankets;forecast 10;hiker 1 5 0;hiker 1 9 0;hiker 11 8 0;");
        Checks.script(x, "lie 0 0;lie 1 4;");
        c.same("both two bunks away, halved together", 7, x.noiseIn(2));
        c.same("not the own snore", 0, x.noiseIn(0));
        c.same("noiseIn(1)", 5, x.noiseIn(1));
        c.same("noiseIn(3)", 9, x.noiseIn(3));
        x.lieDown(2, 2);
        c.same("a cold hiker is silent", 5, x.noiseIn(1));
        c.same("a cold hiker is silent", 9, x.noiseIn(3));
        x.lieDown(1, 3);
        c.same("a neighbour warms, so that all snore", 5 + 8 + 9 / 2, x.noiseIn(1));
        c.same("noiseIn(3)", 8, x.noiseIn(3));
        c.same("noiseIn(2)", 9 + 5 / 2, x.noiseIn(2));
        c.same("noiseIn(4)", 9 + 8 / 2, x.noiseIn(4));
        x.getUp(1);
        c.same("nobody snores at the table", 0, x.noiseIn(4));
        c.fails("noiseIn(5)", INDEX, () -> x.noiseIn(5));
        c.fails("noiseIn(-1)", INDEX, () -> x.noiseIn(-1));
    }

    private static void promise14() {
        c.begin("promise 14");
        HutLedger x = Checks.hut("hut 0;bunks 1 2 3 3 2 3;blankets;forecast 10;hiker 30 9 0;hiker 1 3 0;hiker 1 2 0;");
        c.same("the greatest height, then the lowest number", 2, x.quietestBunk());
        x.lieDown(0, 2);
        c.same("a cold hiker makes no noise", 3, x.quietestBunk());
        x.lieDown(0, 0);
        x.lieDown(1, 3);
        c.same("noiseIn(1) and noiseIn(5)", 11, 10 * x.noiseIn(1) + x.noiseIn(5));
        c.same("the least noise goes first, then the height", 5, x.quietestBunk());
        Checks.script(x, "lie 2 1;lie 1 4;");
        c.same("noiseIn", 2 + 3 / 2, x.noiseIn(2));
        c.same("noiseIn", 3 + 2 / 2, x.noiseIn(3));
        c.same("noiseIn", 3, x.noiseIn(5));
        c.same("the lowest of two with equal noise and height", 2, x.quietestBunk());
        HutLedger y = Checks.hut("hut 0;bunks 1;blankets;forecast 1;hiker 1 0 0;");
        c.same("quietestBunk", 0, y.quietestBunk());
        y.lieDown(0, 0);
        c.same("no bunk is empty", -1, y.quietestBunk());
    }

    private static void promise15() {
        c.begin("promise 15");
        HutLedger x = new HutLedger();
        c.same("longestRow", 0, x.longestRow());
        x.lieDown(0, 0);
        c.same("longestRow", 1, x.longestRow());
        x.lieDown(1, 1);
        c.same("longestRow", 2, x.longestRow());
        x.lieDown(0, 4);
        c.same("longestRow", 1, x.longestRow());
        x.lieDown(1, 2);
        c.same("longestRow", 1, x.longestRow());
        x.lieDown(2, 1);
        c.same("longestRow", 2, x.longestRow());
        x.lieDown(3, 3);
        c.same("longestRow", 4, x.longestRow());
        x.getUp(1);
        c.same("longestRow", 2, x.longestRow());
    }

    private static void promise16() {
        c.begin("promise 16");
        HutLedger x = Checks.hut("hut 0;bunks 0 0 0 0;blankets;forecast 10;hiker 1 9 0;hiker 1 0 0;");
        c.same("alone, the lowest", 0, x.bestPlaceFor(0));
        x.lieDown(1, 0);
        c.same("not beside the other, then the lowest", 2, x.bestPlaceFor(0));
        x.lieDown(0, 3);
        c.same("a better one than the own", 2, x.bestPlaceFor(0));
        x.lieDown(0, 2);
        c.same("the own one", 2, x.bestPlaceFor(0));
        c.same("the own one", 0, x.bestPlaceFor(1));
        c.same("nothing changes", 2, x.bunkOf(0));
        c.fails("bestPlaceFor(2)", INDEX, () -> x.bestPlaceFor(2));
        c.fails("bestPlaceFor(-1)", INDEX, () -> x.bestPlaceFor(-1));
        HutLedger y = Checks.hut("hut 0;bunks 0 0;blankets;forecast 10;hiker 1 9 0;hiker 1 0 0;");
        y.lieDown(1, 0);
        c.same("the table is as good", -1, y.bestPlaceFor(0));
        y.lieDown(0, 1);
        c.same("the table is as good as the own one", -1, y.bestPlaceFor(0));
        HutLedger z = Checks.hut("hut 0;bunks 0 0 0;blankets;forecast 10;hiker 30 0 0;hiker 11 0 0;");
        z.lieDown(1, 1);
        c.same("the cold one warms the other", 0, z.bestPlaceFor(0));
        z.lieDown(0, 2);
        c.same("the table would leave the other cold", 0, z.bestPlaceFor(0));
        HutLedger full = Checks.hut("hut 0;bunks 0;blankets;forecast 10;hiker 1 0 0;hiker 1 0 0;");
        full.lieDown(1, 0);
        c.same("no bunk for this hiker", -1, full.bestPlaceFor(0));
    }

    // ---- blankets and hikers

    private static void blanketsAndHikers() {
        promises17To19();
        promise20();
        promises21To23();
        promise24();
        promise25();
        promise26();
        promises27And28();
        promise29();
        promise30();
    }

    private static void promises17To19() {
        c.begin("promises 17 to 19");
        HutLedger x = Checks.hut(FIRST.replace("3 5 2;", "3 5 3 9;"));
        int[] all = {3, 1, 0, 2};
        for (int rank = 0; rank < all.length; rank++) {
            c.same("blanketOnPile(" + rank + ")", all[rank], x.blanketOnPile(rank));
        }
        c.fails("blanketOnPile(4)", ELEMENT, () -> x.blanketOnPile(4));
        c.fails("blanketOnPile(-1)", ELEMENT, () -> x.blanketOnPile(-1));
        c.same("pileSize", 4, x.pileSize());
        c.same("userOf(3)", -1, x.userOf(3));
        x.takeBlanket(2, 1);
        x.takeBlanket(0, 0);
        c.same("userOf(1)", 2, x.userOf(1));
        c.same("userOf(0)", 0, x.userOf(0));
        c.same("userOf(2)", -1, x.userOf(2));
        c.same("pileSize", 2, x.pileSize());
        c.same("blanketOnPile(0)", 3, x.blanketOnPile(0));
        c.same("blanketOnPile(1)", 2, x.blanketOnPile(1));
        c.fails("blanketOnPile(2)", ELEMENT, () -> x.blanketOnPile(2));
        c.fails("userOf(4)", INDEX, () -> x.userOf(4));
        c.fails("userOf(-1)", INDEX, () -> x.userOf(-1));
        HutLedger bare = Checks.hut("hut 0;bunks 0;blankets;forecast 1;hiker 1 0 0;");
        c.same("pileSize", 0, bare.pileSize());
        c.fails("blanketOnPile(0)", ELEMENT, () -> bare.blanketOnPile(0));
        c.fails("userOf(0)", INDEX, () -> bare.userOf(0));
    }

    private static void promise20() {
        c.begin("promise 20");
        HutLedger x = Checks.hut("hut 0;bunks 0;blankets 9 4 4 2;forecast 6;hiker 10 0 0;hiker 1 0 0;hiker 16 0 0;");
        c.same("the thinnest, then the lowest", 1, x.fittingBlanket(0));
        c.same("for one who needs none", 3, x.fittingBlanket(1));
        c.same("none is thick enough", -1, x.fittingBlanket(2));
        x.takeBlanket(0, 1);
        c.same("in place of the present one", 2, x.fittingBlanket(0));
        x.takeBlanket(1, 2);
        c.same("fittingBlanket(0)", 0, x.fittingBlanket(0));
        x.takeBlanket(2, 0);
        c.same("none on the pile fits", -1, x.fittingBlanket(0));
        c.same("fittingBlanket(1)", 3, x.fittingBlanket(1));
        c.fails("fittingBlanket(3)", INDEX, () -> x.fittingBlanket(3));
        c.fails("fittingBlanket(-1)", INDEX, () -> x.fittingBlanket(-1));
    }

    private static void promises21To23() {
        c.begin("promises 21 to 23");
        HutLedger x = new HutLedger();
        c.same("hikerCount", 4, x.hikerCount());
        c.same("bunkOf(3)", -1, x.bunkOf(3));
        c.same("blanketOf(3)", -1, x.blanketOf(3));
        x.lieDown(3, 4);
        x.takeBlanket(2, 0);
        c.same("bunkOf(3)", 4, x.bunkOf(3));
        c.same("bunkOf(2)", -1, x.bunkOf(2));
        c.same("blanketOf(2)", 0, x.blanketOf(2));
        c.same("blanketOf(3)", -1, x.blanketOf(3));
        c.fails("bunkOf(4)", INDEX, () -> x.bunkOf(4));
        c.fails("bunkOf(-1)", INDEX, () -> x.bunkOf(-1));
        c.fails("blanketOf(4)", INDEX, () -> x.blanketOf(4));
        c.fails("blanketOf(-1)", INDEX, () -> x.blanketOf(-1));
        c.same("hikerCount", 1, Checks.hut("hut 0;bunks 0;blankets;forecast 1;hiker 1 0 0;").hikerCount());
    }

    private static void promise24() {
        c.begin("promise 24");
        HutLedger x = new HutLedger();
        c.same("at the table", 6, x.warmth(0));
        x.lieDown(0, 2);
        c.same("the height", 9, x.warmth(0));
        x.takeBlanket(0, 1);
        c.same("the blanket", 14, x.warmth(0));
        x.lieDown(1, 1);
        c.same("a neighbour", 15, x.warmth(0));
        x.lieDown(3, 3);
        c.same("two neighbours", 16, x.warmth(0));
        c.same("two bunks away is no neighbour", 6 + 1 + 1, x.warmth(1));
        x.setRate(1);
        x.passHours(1);
        c.same("the stove and the weather", 16 + 4 - 3, x.warmth(0));
        c.same("at the table", 7, x.warmth(2));
        x.getUp(0);
        c.same("at the table with a blanket", 12, x.warmth(0));
        c.fails("warmth(4)", INDEX, () -> x.warmth(4));
        c.fails("warmth(-1)", INDEX, () -> x.warmth(-1));
    }

    private static void promise25() {
        c.begin("promise 25");
        String house = "hut 0;bunks 0 0 0;blankets;forecast 10;hiker 10 0 0;hiker 11 9 0;";
        HutLedger x = Checks.hut(house + "hiker 1 6 0;hiker 1 7 0;");
        c.same("at the table, as warm as needed", HutLedger.WAITS, x.activity(0));
        c.same("at the table, cold", HutLedger.SHIVERS, x.activity(1));
        x.lieDown(0, 0);
        c.same("alone", HutLedger.SLEEPS, x.activity(0));
        x.lieDown(1, 2);
        c.same("in a bunk, cold", HutLedger.SHIVERS, x.activity(1));
        x.getUp(1);
        x.lieDown(2, 1);
        c.same("noise 6", HutLedger.SLEEPS, x.activity(0));
        x.getUp(2);
        x.lieDown(3, 1);
        c.same("noise 7", HutLedger.LIES_AWAKE, x.activity(0));
        x.lieDown(1, 2);
        c.same("warmed by a neighbour, but disturbed", HutLedger.LIES_AWAKE, x.activity(1));
        c.fails("activity(4)", INDEX, () -> x.activity(4));
        c.fails("activity(-1)", INDEX, () -> x.activity(-1));
    }

    private static void promise26() {
        c.begin("promise 26");
        HutLedger x = Checks.hut("hut 9;bunks 0 0;blankets;forecast 10 5;hiker 10 0 0;hiker 1 7 0;");
        x.lieDown(0, 0);
        x.passHours(3);
        c.same("sleeps", 2, x.hoursOf(0, HutLedger.SLEEPS));
        c.same("shivers", 1, x.hoursOf(0, HutLedger.SHIVERS));
        c.same("waits", 3, x.hoursOf(1, HutLedger.WAITS));
        x.lieDown(1, 1);
        x.passHours(2);
        c.same("lies awake", 1, x.hoursOf(0, HutLedger.LIES_AWAKE));
        c.same("shivers", 2, x.hoursOf(0, HutLedger.SHIVERS));
        c.same("waits", 0, x.hoursOf(0, HutLedger.WAITS));
        c.same("sleeps", 2, x.hoursOf(1, HutLedger.SLEEPS));
        x.getUp(0);
        x.setRate(2);
        x.passHours(1);
        c.same("the fire of this hour warms already", 1, x.hoursOf(0, HutLedger.WAITS));
        c.fails("hoursOf(0, 4)", ARGUMENT, () -> x.hoursOf(0, 4));
        c.fails("hoursOf(0, -1)", ARGUMENT, () -> x.hoursOf(0, -1));
        c.fails("hoursOf(2, 0)", INDEX, () -> x.hoursOf(2, 0));
        c.fails("hoursOf(-1, 0)", INDEX, () -> x.hoursOf(-1, 0));
        c.fails("hoursOf(2, 4)", INDEX, () -> x.hoursOf(2, 4));
    }

    private static void promises27And28() {
        c.begin("promises 27 and 28");
        HutLedger x = new HutLedger();
        int[] coins = {12, 5, 30, 1};
        for (int i = 0; i < coins.length; i++) {
            c.same("coinsOf", coins[i], x.coinsOf(i));
            c.same("debtOf", 0, x.debtOf(i));
        }
        x.passHours(16);
        int[] left = {6, 0, 24, 0};
        int[] debts = {0, 1, 0, 5};
        for (int i = 0; i < coins.length; i++) {
            c.same("coinsOf", left[i], x.coinsOf(i));
            c.same("debtOf", debts[i], x.debtOf(i));
        }
        c.fails("coinsOf(4)", INDEX, () -> x.coinsOf(4));
        c.fails("coinsOf(-1)", INDEX, () -> x.coinsOf(-1));
        c.fails("debtOf(4)", INDEX, () -> x.debtOf(4));
        c.fails("debtOf(-1)", INDEX, () -> x.debtOf(-1));
    }

    private static void promise29() {
        c.begin("promise 29");
        HutLedger x = Checks.hut("hut 0;bunks 0 0;blankets;forecast 10;"
                + "hiker 30 0 0;hiker 1 0 0;hiker 1 0 0;hiker 1 0 0;hiker 30 0 0;");
        int[] atFirst = {0, 1, 2, 3, 4};
        int[] atLast = {3, 1, 2, 0, 4};
        for (int rank = 0; rank < 5; rank++) {
            c.same("hikerAtRank at first", atFirst[rank], x.hikerAtRank(rank));
        }
        x.lieDown(3, 0);
        x.passHours(1);
        for (int rank = 0; rank < 5; rank++) {
            c.same("hikerAtRank", atLast[rank], x.hikerAtRank(rank));
        }
        x.lieDown(2, 1);
        x.getUp(3);
        x.passHours(2);
        c.same("the most sleep", 2, x.hikerAtRank(0));
        c.same("the second most sleep", 3, x.hikerAtRank(1));
        c.fails("hikerAtRank(5)", ELEMENT, () -> x.hikerAtRank(5));
        c.fails("hikerAtRank(-1)", ELEMENT, () -> x.hikerAtRank(-1));
    }

    private static void promise30() {
        c.begin("promise 30");
        String house = "hut 0;bunks 0 0 0 0;blankets;forecast 10;";
        HutLedger x = Checks.hut(house + "hiker 1 4 0;hiker 1 0 0;hiker 1 4 0;hiker 1 9 0;");
        c.same("nobody lies awake", -1, x.worstSnorer());
        Checks.script(x, "lie 0 0;lie 1 1;lie 2 2;");
        c.same("the lowest of two equal ones", 0, x.worstSnorer());
        x.lieDown(3, 3);
        c.same("the silence of one", 3, x.worstSnorer());
        c.same("nothing changes", 4 + 4 + 9 / 2, x.noiseIn(1));
        HutLedger y = Checks.hut(house + "hiker 1 7 0;hiker 1 0 0;hiker 1 7 0;");
        Checks.script(y, "lie 0 0;lie 1 1;lie 2 2;");
        c.same("one alone does not help", -1, y.worstSnorer());
        y.lieDown(0, 3);
        c.same("worstSnorer", 2, y.worstSnorer());
        HutLedger z = Checks.hut(house + "hiker 1 6 0;hiker 1 0 0;hiker 1 6 0;");
        Checks.script(z, "lie 0 0;lie 1 1;lie 2 2;");
        c.same("noise 6 lets sleep", 0, z.worstSnorer());
    }

    // ---- fairness

    private static void fairness() {
        promises31To33();
        promise34();
        promise35();
        promise36();
    }

    private static void promises31To33() {
        c.begin("promises 31 to 33");
        HutLedger x = new HutLedger();
        c.same("hikersWithout", 4, x.hikersWithout());
        c.same("coldHikers", 4, x.coldHikers());
        c.same("coldestHiker", 2, x.coldestHiker());
        x.takeBlanket(2, 1);
        c.same("hikersWithout", 3, x.hikersWithout());
        c.same("coldHikers", 4, x.coldHikers());
        c.same("coldestHiker", 0, x.coldestHiker());
        x.takeBlanket(0, 0);
        x.lieDown(1, 1);
        c.same("hikersWithout", 2, x.hikersWithout());
        c.same("as warm as needed is not cold", 3, x.coldHikers());
        c.same("coldestHiker", 3, x.coldestHiker());
        HutLedger y = Checks.hut("hut 0;bunks 0;blankets;forecast 20;hiker 3 0 0;hiker 5 0 0;hiker 5 0 0;");
        c.same("coldHikers", 0, y.coldHikers());
        c.same("nobody misses any, the lowest of two equal ones", 1, y.coldestHiker());
    }

    private static void promise34() {
        c.begin("promise 34");
        HutLedger x = new HutLedger();
        c.same("fewestCold", 1, x.fewestCold());
        Checks.script(x, "take 1 1;take 2 0;take 0 2;");
        c.same("all blankets anew", 1, x.fewestCold());
        c.same("nothing changes", 1, x.blanketOf(1));
        Checks.script(x, "lie 2 2;lie 1 1;");
        c.same("the bunks help", 0, x.fewestCold());
        String house = "hut 0;bunks 0;blankets 5 1 4;forecast 6;";
        c.same("each one to the right hiker", 0, Checks.hut(house + "hiker 7 0 0;hiker 11 0 0;hiker 9 0 0;").fewestCold());
        c.same("one is too thin", 1, Checks.hut(house + "hiker 11 0 0;hiker 8 0 0;hiker 8 0 0;").fewestCold());
        c.same("too few", 1, Checks.hut(house + "hiker 7 0 0;".repeat(4)).fewestCold());
        c.same("all too thin", 2, Checks.hut(house + "hiker 12 0 0;".repeat(2)).fewestCold());
        c.same("none needed", 0, Checks.hut(house + "hiker 6 0 0;".repeat(5)).fewestCold());
        String bare = "hut 0;bunks 0;blankets;forecast 6;";
        c.same("no blankets", 2, Checks.hut(bare + "hiker 7 0 0;hiker 6 0 0;hiker 8 0 0;").fewestCold());
        c.same("more than needed", 0, Checks.hut(house + "hiker 7 0 0;hiker 6 0 0;").fewestCold());
        String nine = "hut 0;bunks 0;blankets 9 9;forecast 6;";
        c.same("the thickest", 1, Checks.hut(nine + "hiker 15 0 0;hiker 15 0 0;hiker 16 0 0;").fewestCold());
    }

    private static void promise35() {
        c.begin("promise 35");
        String house = "hut 0;bunks 0;blankets 4 4;forecast 6;";
        HutLedger x = Checks.hut(house + "hiker 10 0 0;hiker 6 0 0;hiker 10 0 0;hiker 6 0 0;");
        c.same("no blanket is used", -1, x.bestExchange());
        x.takeBlanket(3, 0);
        c.same("the smaller of two equal pairs", 3, x.bestExchange());
        c.same("nothing changes", 3, x.userOf(0));
        x.takeBlanket(0, 1);
        c.same("bestExchange", 23, x.bestExchange());
        x.swapBlankets(3, 1);
        c.same("the lower number first", 12, x.bestExchange());
        x.swapBlankets(1, 2);
        c.same("nobody is cold", -1, x.bestExchange());
        HutLedger y = Checks.hut("hut 0;bunks 0;blankets 4 1;forecast 6;hiker 10 0 0;hiker 7 0 0;hiker 10 0 0;");
        y.takeBlanket(1, 0);
        c.same("as many would be cold", -1, y.bestExchange());
        y.takeBlanket(0, 1);
        c.same("both use one", 1, y.bestExchange());
        HutLedger z = Checks.hut("hut 0;bunks 0;blankets 4 1;forecast 6;hiker 10 0 0;hiker 6 0 0;hiker 7 0 0;");
        Checks.script(z, "take 0 1;take 2 0;");
        c.same("the cold one with the one whose blanket is thick enough", 2, z.bestExchange());
        HutLedger cold = Checks.hut("hut 0;bunks 0;blankets 4 1;forecast 6;hiker 10 0 0;hiker 30 0 0;hiker 10 0 0;");
        Checks.script(cold, "take 0 1;take 1 0;");
        c.same("the second one stays cold", 1, cold.bestExchange());
        HutLedger first = Checks.hut("hut 0;bunks 0;blankets 4;forecast 6;hiker 30 0 0;hiker 10 0 0;");
        first.takeBlanket(0, 0);
        c.same("the first one stays cold", 1, first.bestExchange());
        HutLedger two = Checks.hut("hut 0;bunks 0;blankets 4 3;forecast 6;hiker 10 0 0;hiker 6 0 0;hiker 9 0 0;");
        Checks.script(two, "take 1 1;take 2 0;");
        c.same("two exchanges would help, one does not", -1, two.bestExchange());
        c.same("fewestCold", 0, two.fewestCold());
    }

    private static void promise36() {
        c.begin("promise 36");
        HutLedger x = new HutLedger();
        c.same("the greatest height", 2, x.warmestBunk(0));
        x.lieDown(0, 2);
        c.same("the own one", 2, x.warmestBunk(0));
        c.same("a neighbour on one side, the lowest of two", 1, x.warmestBunk(1));
        c.same("nothing changes", 2, x.bunkOf(0));
        c.fails("warmestBunk(4)", INDEX, () -> x.warmestBunk(4));
        c.fails("warmestBunk(-1)", INDEX, () -> x.warmestBunk(-1));
        HutLedger y = Checks.hut("hut 0;bunks 0 0 0 0;blankets;forecast 10;hiker 1 0 0;hiker 1 5 0;hiker 1 3 0;");
        Checks.script(y, "lie 1 0;lie 2 3;");
        c.same("equally warm, less noise", 2, y.warmestBunk(0));
        HutLedger z = Checks.hut("hut 0;bunks 0 0 0 0;blankets;forecast 10;hiker 1 0 0;hiker 11 9 0;hiker 1 5 0;");
        Checks.script(z, "lie 1 0;lie 2 3;");
        c.same("the noise if the hiker lay there", 2, z.warmestBunk(0));
        HutLedger own = Checks.hut("hut 0;bunks 0 0 0;blankets;forecast 10;hiker 1 9 0;hiker 30 0 0;");
        Checks.script(own, "lie 0 0;lie 1 2;");
        c.same("the own place warms nobody any more", 1, own.warmestBunk(0));
        own.lieDown(1, 1);
        c.same("the own one beside the other", 1, own.warmestBunk(1));
        c.same("the lowest", 0, Checks.hut("hut 0;bunks 5 0;blankets;forecast 0;hiker 1 0 0;").warmestBunk(0));
        c.same("warmth 0", 0, Checks.hut("hut 0;bunks 0 0;blankets;forecast 0;hiker 1 0 0;").warmestBunk(0));
        HutLedger full = Checks.hut("hut 0;bunks 0;blankets;forecast 10;hiker 1 0 0;hiker 1 0 0;");
        full.lieDown(1, 0);
        c.same("no such bunk", -1, full.warmestBunk(0));
        c.same("the own one", 0, full.warmestBunk(1));
    }

    // ---- totals and checks

    private static void totals() {
        promises37To40();
        promise41();
        promise42();
    }

    private static void promises37To40() {
        c.begin("promises 37 to 40");
        HutLedger x = new HutLedger();
        Checks.script(x, "burn 2;take 0 0;take 1 1;");
        x.passHours(7);
        c.same("hutCoins", 0, x.hutCoins());
        c.same("burnedLogs", 14, x.burnedLogs());
        c.same("totalDebt", 0, x.totalDebt());
        x.passHours(1);
        // 11 each; a pays 1 more to the pot, b owes 6 and 2 more; of the pot of 1 nothing can be shared.
        c.same("ledger", "a=0/0 b=0-8/0 c=19/0 d=0-10/0", Checks.ledger(x));
        c.same("hutCoins", 11 + 5 + 11 + 1 + 1, x.hutCoins());
        c.same("burnedLogs", 16, x.burnedLogs());
        c.same("totalDebt", 18, x.totalDebt());
        c.same("totalDebt", 9, indebted().totalDebt());
        x.fetchLogs(10);
        x.passHours(40);
        c.same("burnedLogs", 30, x.burnedLogs());
        c.same("auditDifference", 0, x.auditDifference());
        HutLedger y = Checks.hut("hut 0;bunks 0;blankets 9 1;forecast 1;hiker 1 0 9;hiker 1 0 2;");
        Checks.script(y, "take 0 0;take 1 1;pass 8;");
        c.same("all use blankets: the hut gets the pot", 3 + 2 + 3, y.hutCoins());
        c.same("ledger", "a=3/0 b=0-2/0", Checks.ledger(y));
        HutLedger z = Checks.hut("hut 0;bunks 0;blankets 9 9;forecast 1;hiker 1 0 9;hiker 1 0 7;hiker 1 0 3;hiker 1 0 3;");
        Checks.script(z, "take 0 0;take 1 1;pass 8;");
        c.same("the pot is shared", "a=3/0 b=1/0 c=3/0 d=3/0", Checks.ledger(z));
        c.same("hutCoins", 12, z.hutCoins());
        z.returnBlanket(1);
        z.passHours(8);
        c.same("only coins come into the pot", "a=0-3/0 b=0-2/0 c=0/0 d=0/0", Checks.ledger(z));
        c.same("hutCoins", 12 + 3 + 1 + 3 + 3, z.hutCoins());
        HutLedger rest = Checks.hut("hut 0;bunks 0;blankets 6;forecast 1;hiker 1 0 0;hiker 1 0 0;hiker 1 0 9;hiker 1 0 0;");
        Checks.script(rest, "take 2 0;pass 8;");
        c.same("a rest of 2 goes to the hut", 5, rest.hutCoins());
        c.same("auditDifference", 0, rest.auditDifference());
        logCosts();
    }

    private static HutLedger indebted() {
        HutLedger x = Checks.hut("hut 0;bunks 0;blankets;forecast 1;hiker 1 0 1;hiker 1 0 9;hiker 1 0 2;");
        x.passHours(16);
        c.same("ledger", "a=0-5/0 b=3/0 c=0-4/0", Checks.ledger(x));
        return x;
    }

    private static void logCosts() {
        HutLedger x = Checks.hut("hut 5;bunks 0;blankets;forecast 1;" + "hiker 1 0 20;".repeat(4));
        Checks.script(x, "burn 3;pass 8;");
        c.same("the lowest pay the single coins", "a=14/0 b=14/0 c=15/0 d=15/0", Checks.ledger(x).replaceAll("/\\d", "/0"));
        c.same("hutCoins", 22, x.hutCoins());
        x.passHours(8);
        c.same("logs are paid once", 34, x.hutCoins());
        c.same("auditDifference", 0, x.auditDifference());
    }

    private static void promise41() {
        c.begin("promise 41");
        HutLedger x = Checks.hut("hut 0;bunks 0;blankets 1;forecast 10;" + "hiker 1 0 0;".repeat(3));
        c.same("meanWarmth", 10.0, x.meanWarmth());
        x.takeBlanket(1, 0);
        c.same("meanWarmth", 31.0 / 3.0, x.meanWarmth());
    }

    private static void promise42() {
        c.begin("promise 42");
        HutLedger x = Checks.hut("hut 0;bunks 0;blankets;forecast 10;" + "hiker 1 0 0;".repeat(3));
        c.same("sleepShare at hour 0", 0.0f, x.sleepShare());
        x.lieDown(1, 0);
        x.passHours(1);
        c.same("sleepShare", 1.0f / 3.0f, x.sleepShare());
        x.getUp(1);
        x.passHours(6);
        c.same("sleepShare", 1.0f / 21.0f, x.sleepShare());
        HutLedger alone = Checks.hut("hut 0;bunks 0;blankets;forecast 10;hiker 1 0 0;");
        alone.lieDown(0, 0);
        alone.passHours(1);
        c.same("sleepShare", 1.0f, alone.sleepShare());
    }

    // ---- predictions

    private static void predictions() {
        promise43();
        promise44();
        promise45();
        promises46And47();
        promise48();
        promise49();
        promise50();
        predictionsAtTheEnd();
    }

    private static void promise43() {
        c.begin("promise 43");
        HutLedger x = new HutLedger();
        x.setRate(3);
        int[] due = {6, 15, 19, 25, 28, 26, 24, 23, 15, 7};
        for (int i = 0; i < due.length; i++) {
            c.same("temperatureAfter(" + i + ")", due[i], x.temperatureAfter(i));
        }
        c.same("temperatureAfter(96)", 6, x.temperatureAfter(96));
        c.fails("temperatureAfter(97)", ARGUMENT, () -> x.temperatureAfter(97));
        c.fails("temperatureAfter(-1)", ARGUMENT, () -> x.temperatureAfter(-1));
        c.same("nothing changes", 20, x.logs());
        x.passHours(7);
        c.same("temperatureAfter(1)", 15, x.temperatureAfter(1));
    }

    private static void promise44() {
        c.begin("promise 44");
        HutLedger x = new HutLedger();
        c.same("shiversUntilDawn(1)", 8, x.shiversUntilDawn(1));
        x.takeBlanket(1, 1);
        c.same("shiversUntilDawn(1)", 2, x.shiversUntilDawn(1));
        x.passHours(3);
        c.same("shiversUntilDawn(1)", 1, x.shiversUntilDawn(1));
        c.same("nothing changes", 1, x.hoursOf(1, 0));
        x.passHours(5);
        c.same("shiversUntilDawn(1)", 2, x.shiversUntilDawn(1));
        c.fails("shiversUntilDawn(4)", INDEX, () -> x.shiversUntilDawn(4));
        c.fails("shiversUntilDawn(-1)", INDEX, () -> x.shiversUntilDawn(-1));
    }

    private static void promise45() {
        c.begin("promise 45");
        HutLedger x = new HutLedger();
        c.same("paymentAtDawn", 3, x.paymentAtDawn(3));
        Checks.script(x, "burn 2;take 2 1;take 1 0;take 3 2;");
        c.same("a third, rounded up", 3 + 8 + 2, x.paymentAtDawn(2));
        c.same("a third", 3 + 8 + 1, x.paymentAtDawn(1));
        c.same("without what comes of the pot", 3 + 8, x.paymentAtDawn(0));
        c.same("in coins or as a debt", 3 + 8 + 1, x.paymentAtDawn(3));
        c.fails("paymentAtDawn(4)", INDEX, () -> x.paymentAtDawn(4));
        c.fails("paymentAtDawn(-1)", INDEX, () -> x.paymentAtDawn(-1));
        HutLedger y = Checks.hut("hut 5;bunks 0;blankets 4 6 7;forecast 1;" + "hiker 1 0 9;".repeat(4));
        y.setRate(3);
        int[] due = {6, 6, 5, 5};
        for (int i = 0; i < due.length; i++) {
            c.same("paymentAtDawn(" + i + ")", due[i], y.paymentAtDawn(i));
        }
        y.passHours(5);
        c.same("with the logs that were burned already", 6, y.paymentAtDawn(1));
        y.passHours(3);
        c.same("without those of the last night", 3, y.paymentAtDawn(1));
        Checks.script(y, "take 0 0;take 1 1;take 2 2;");
        c.same("4 / 3", 5, y.paymentAtDawn(0));
        c.same("6 / 3", 5, y.paymentAtDawn(1));
        c.same("7 / 3", 6, y.paymentAtDawn(2));
    }

    private static void promises46And47() {
        c.begin("promises 46 and 47");
        HutLedger x = Checks.hut("hut 0;bunks 0;blankets;forecast 1;hiker 1 0 35;hiker 1 0 36;hiker 1 0 2;hiker 1 0 3;");
        c.same("debtAfter(2, 0)", 0, x.debtAfter(2, 0));
        c.same("debtAfter(2, 7)", 0, x.debtAfter(2, 7));
        c.same("debtAfter(2, 8)", 1, x.debtAfter(2, 8));
        c.same("debtAfter(2, 16)", 4, x.debtAfter(2, 16));
        c.same("debtAfter(0, 95)", 0, x.debtAfter(0, 95));
        c.same("debtAfter(0, 96)", 1, x.debtAfter(0, 96));
        c.fails("debtAfter(0, 97)", ARGUMENT, () -> x.debtAfter(0, 97));
        c.fails("debtAfter(0, -1)", ARGUMENT, () -> x.debtAfter(0, -1));
        c.fails("debtAfter(4, 0)", INDEX, () -> x.debtAfter(4, 0));
        c.fails("debtAfter(-1, 97)", INDEX, () -> x.debtAfter(-1, 97));
        c.same("dawnsUntilDebt(0)", 12, x.dawnsUntilDebt(0));
        c.same("dawnsUntilDebt(1)", -1, x.dawnsUntilDebt(1));
        c.same("dawnsUntilDebt(2)", 1, x.dawnsUntilDebt(2));
        c.same("dawnsUntilDebt(3)", 2, x.dawnsUntilDebt(3));
        x.passHours(7);
        c.same("dawnsUntilDebt(2)", 1, x.dawnsUntilDebt(2));
        x.passHours(1);
        c.same("a debt now", 0, x.dawnsUntilDebt(2));
        c.same("dawnsUntilDebt(1)", 12, x.dawnsUntilDebt(1));
        c.fails("dawnsUntilDebt(4)", INDEX, () -> x.dawnsUntilDebt(4));
        c.fails("dawnsUntilDebt(-1)", INDEX, () -> x.dawnsUntilDebt(-1));
        c.same("nothing changes", 8, x.hour());
        HutLedger y = Checks.hut("hut 9;bunks 0;blankets 9;forecast 1;hiker 1 0 5;hiker 1 0 9;");
        Checks.script(y, "burn 1;take 1 0;");
        // At the dawn each pays 3 and 8; b's pot is empty then.
        c.same("with the logs", 6, y.debtAfter(0, 8));
        c.same("with the blanket", 2 + 3, y.debtAfter(1, 8));
    }

    private static void promise48() {
        c.begin("promise 48");
        HutLedger x = new HutLedger();
        c.same("no log burns", -1, x.hoursUntilNoLogs());
        x.setRate(3);
        c.same("hoursUntilNoLogs", 7, x.hoursUntilNoLogs());
        x.setRate(2);
        c.same("hoursUntilNoLogs", 10, x.hoursUntilNoLogs());
        x.passHours(10);
        c.same("no logs", 0, x.hoursUntilNoLogs());
        x.setRate(0);
        c.same("no logs", 0, x.hoursUntilNoLogs());
        HutLedger y = Checks.hut(FIRST.replace("hut 20", "hut 96"));
        y.setRate(1);
        c.same("hoursUntilNoLogs", 96, y.hoursUntilNoLogs());
        y.fetchLogs(1);
        c.same("hoursUntilNoLogs", -1, y.hoursUntilNoLogs());
    }

    private static void promise49() {
        c.begin("promise 49");
        HutLedger x = new HutLedger();
        c.same("rateNeeded", 2, x.rateNeeded());
        x.setRate(3);
        c.same("rateNeeded", 2, x.rateNeeded());
        c.same("nothing changes", 3, x.setRate(0));
        c.same("nothing changes", 0, x.hour());
        x.passHours(7);
        c.same("one hour is left", 2, x.rateNeeded());
        x.takeBlanket(2, 1);
        c.same("8 + 4 is enough for one, not for the others", 2, x.rateNeeded());
        HutLedger y = Checks.hut("hut 9;bunks 0;blankets;forecast 6;hiker 30 0 0;");
        c.same("no rate is sufficient", -1, y.rateNeeded());
        HutLedger three = Checks.hut("hut 99;bunks 0;blankets;forecast 6;hiker 18 0 0;");
        c.same("rateNeeded", 3, three.rateNeeded());
        HutLedger none = Checks.hut("hut 0;bunks 0;blankets;forecast 6;hiker 6 0 0;");
        c.same("rateNeeded", 0, none.rateNeeded());
        HutLedger one = Checks.hut("hut 9;bunks 0;blankets;forecast 6;hiker 10 0 0;");
        c.same("the logs of a greater rate would not last", 1, one.rateNeeded());
        HutLedger few = Checks.hut("hut 7;bunks 0;blankets;forecast 6;hiker 10 0 0;");
        c.same("the logs do not last", -1, few.rateNeeded());
        few.passHours(1);
        c.same("now they do", 1, few.rateNeeded());
    }

    private static void promise50() {
        c.begin("promise 50");
        HutLedger x = Checks.hut("hut 9;bunks 0 0;blankets;forecast 5;hiker 9 0 0;hiker 13 9 0;");
        c.same("nobody sleeps: the smallest", 0, x.bestRate());
        x.lieDown(0, 0);
        c.same("bestRate", 1, x.bestRate());
        x.setRate(2);
        c.same("bestRate", 1, x.bestRate());
        c.same("nothing changes", 2, x.setRate(0));
        HutLedger y = Checks.hut("hut 99;bunks 0;blankets;forecast 5;hiker 13 0 0;");
        y.lieDown(0, 0);
        c.same("the smallest of equal ones", 2, y.bestRate());
        HutLedger z = Checks.hut("hut 99;bunks 0;blankets;forecast 5;hiker 17 0 0;");
        z.lieDown(0, 0);
        c.same("bestRate", 3, z.bestRate());
        HutLedger loud = Checks.hut("hut 99;bunks 0 0;blankets;forecast 5;hiker 6 0 0;hiker 10 9 0;");
        Checks.script(loud, "lie 0 0;lie 1 1;");
        c.same("in the cold nobody snores", 0, loud.bestRate());
    }

    private static void predictionsAtTheEnd() {
        c.begin("predictions beyond 9999");
        HutLedger x = new HutLedger();
        for (int i = 0; i < 208; i++) {
            x.passHours(48);
        }
        x.passHours(15);
        c.same("hour", 9999, x.hour());
        c.same("temperatureAfter(2)", 3, x.temperatureAfter(2));
        c.same("hoursUntilDawn", 1, x.hoursUntilDawn());
        c.same("debtAfter", x.debtOf(0) + 36, x.debtAfter(0, 96));
        c.same("shiversUntilDawn", 1, x.shiversUntilDawn(0));
        c.fails("passHours(1)", STATE, () -> x.passHours(1));
        c.same("hour", 9999, x.hour());
        c.same("sleepShare", 0.0f, x.sleepShare());
    }

    // ---- actions

    private static void actions() {
        promise51();
        promise52();
        promise53();
        promise54();
        promise55();
        promises56And57();
        promise58();
        promise59();
    }

    private static void promise51() {
        c.begin("promise 51");
        HutLedger x = new HutLedger();
        c.same("takeBlanket(0, 1)", 11, x.takeBlanket(0, 1));
        c.same("userOf(1)", 0, x.userOf(1));
        c.fails("another's", STATE, () -> x.takeBlanket(1, 1));
        c.fails("the own one", STATE, () -> x.takeBlanket(0, 1));
        c.same("takeBlanket(0, 2)", 8, x.takeBlanket(0, 2));
        c.same("the one before comes to the pile", -1, x.userOf(1));
        c.same("takeBlanket(1, 1)", 11, x.takeBlanket(1, 1));
        c.fails("takeBlanket(4, 0)", INDEX, () -> x.takeBlanket(4, 0));
        c.fails("takeBlanket(-1, 0)", INDEX, () -> x.takeBlanket(-1, 0));
        c.fails("takeBlanket(0, 3)", INDEX, () -> x.takeBlanket(0, 3));
        c.fails("takeBlanket(0, -1)", INDEX, () -> x.takeBlanket(0, -1));
        c.fails("takeBlanket(4, 1)", INDEX, () -> x.takeBlanket(4, 1));
        c.same("what throws is no action", 2, x.undo());
    }

    private static void promise52() {
        c.begin("promise 52");
        HutLedger x = new HutLedger();
        c.fails("returnBlanket(0)", STATE, () -> x.returnBlanket(0));
        x.takeBlanket(0, 2);
        x.takeBlanket(1, 0);
        c.same("returnBlanket(0)", 2, x.returnBlanket(0));
        c.same("warmth", 6, x.warmth(0));
        c.same("pileSize", 2, x.pileSize());
        c.same("returnBlanket(1)", 0, x.returnBlanket(1));
        c.fails("returnBlanket(1)", STATE, () -> x.returnBlanket(1));
        c.fails("returnBlanket(4)", INDEX, () -> x.returnBlanket(4));
        c.fails("returnBlanket(-1)", INDEX, () -> x.returnBlanket(-1));
        c.same("what throws is no action", 3, x.undo());
    }

    private static void promise53() {
        c.begin("promise 53");
        HutLedger x = new HutLedger();
        x.takeBlanket(2, 1);
        c.same("one has none", 3, x.swapBlankets(0, 2));
        c.same("blanketOf(0)", 1, x.blanketOf(0));
        c.same("blanketOf(2)", -1, x.blanketOf(2));
        c.same("warmth(0)", 11, x.warmth(0));
        x.takeBlanket(1, 2);
        c.same("both have one", 3, x.swapBlankets(1, 0));
        c.same("blanketOf(0)", 2, x.blanketOf(0));
        c.same("blanketOf(1)", 1, x.blanketOf(1));
        c.fails("the same", STATE, () -> x.swapBlankets(0, 0));
        c.fails("none uses one", STATE, () -> x.swapBlankets(2, 3));
        c.fails("swapBlankets(4, 0)", INDEX, () -> x.swapBlankets(4, 0));
        c.fails("swapBlankets(0, 4)", INDEX, () -> x.swapBlankets(0, 4));
        c.fails("swapBlankets(-1, -1)", INDEX, () -> x.swapBlankets(-1, -1));
        c.fails("swapBlankets(0, -1)", INDEX, () -> x.swapBlankets(0, -1));
        c.same("what throws is no action", 3, x.undo());
        c.same("undone", 2, x.blanketOf(1));
    }

    private static void promise54() {
        c.begin("promise 54");
        HutLedger x = Checks.hut("hut 0;bunks 0 0 0;blankets;forecast 10;hiker 1 5 0;hiker 1 3 0;hiker 11 7 0;");
        c.same("lieDown(0, 0)", 0, x.lieDown(0, 0));
        c.same("lieDown(1, 1)", 5, x.lieDown(1, 1));
        c.fails("the bunk of another", STATE, () -> x.lieDown(0, 1));
        c.fails("the own bunk", STATE, () -> x.lieDown(0, 0));
        c.same("from another bunk", 3, x.lieDown(0, 2));
        c.same("hikerIn(0)", -1, x.hikerIn(0));
        c.same("hikerIn(2)", 0, x.hikerIn(2));
        x.lieDown(1, 0);
        x.getUp(0);
        c.same("two bunks away", 1, x.lieDown(2, 2));
        x.getUp(1);
        c.same("noise after the call, with one warmed by it", 7, x.lieDown(1, 1));
        c.fails("lieDown(3, 0)", INDEX, () -> x.lieDown(3, 0));
        c.fails("lieDown(-1, 0)", INDEX, () -> x.lieDown(-1, 0));
        c.fails("lieDown(0, 3)", INDEX, () -> x.lieDown(0, 3));
        c.fails("lieDown(0, -1)", INDEX, () -> x.lieDown(0, -1));
        c.fails("lieDown(3, 1)", INDEX, () -> x.lieDown(3, 1));
        c.same("what throws is no action", 5, x.undo());
        c.same("undone", -1, x.bunkOf(1));
    }

    private static void promise55() {
        c.begin("promise 55");
        HutLedger x = new HutLedger();
        c.fails("at the table", STATE, () -> x.getUp(2));
        x.lieDown(2, 4);
        x.lieDown(1, 3);
        c.same("getUp(2)", 4, x.getUp(2));
        c.same("bunkOf(2)", -1, x.bunkOf(2));
        c.same("hikerIn(4)", -1, x.hikerIn(4));
        c.same("warmth(1)", 7, x.warmth(1));
        c.fails("at the table", STATE, () -> x.getUp(2));
        c.fails("getUp(4)", INDEX, () -> x.getUp(4));
        c.fails("getUp(-1)", INDEX, () -> x.getUp(-1));
        c.same("what throws is no action", 2, x.undo());
    }

    private static void promises56And57() {
        c.begin("promises 56 and 57");
        HutLedger x = new HutLedger();
        c.same("setRate(3)", 0, x.setRate(3));
        c.same("setRate(3)", 3, x.setRate(3));
        c.same("setRate(0)", 3, x.setRate(0));
        c.fails("setRate(4)", ARGUMENT, () -> x.setRate(4));
        c.fails("setRate(-1)", ARGUMENT, () -> x.setRate(-1));
        c.same("the same rate is an action too", 2, x.undo());
        c.same("undone", 1, x.undo());
        HutLedger y = new HutLedger();
        c.same("fetchLogs(1)", 21, y.fetchLogs(1));
        c.same("fetchLogs(50)", 71, y.fetchLogs(50));
        c.fails("fetchLogs(29)", STATE, () -> y.fetchLogs(29));
        c.fails("fetchLogs(0)", ARGUMENT, () -> y.fetchLogs(0));
        c.fails("fetchLogs(-5)", ARGUMENT, () -> y.fetchLogs(-5));
        c.fails("fetchLogs(51)", ARGUMENT, () -> y.fetchLogs(51));
        c.fails("fetchLogs(highest)", ARGUMENT, () -> y.fetchLogs(Integer.MAX_VALUE));
        c.same("fetchLogs(28)", 99, y.fetchLogs(28));
        c.fails("fetchLogs(1)", STATE, () -> y.fetchLogs(1));
        c.same("logs", 99, y.logs());
        c.same("auditDifference", 0, y.auditDifference());
        c.same("what throws is no action", 2, y.undo());
    }

    private static void promise58() {
        c.begin("promise 58");
        HutLedger x = Checks.hut("hut 0;bunks 0;blankets 9;forecast 1;hiker 1 0 0;hiker 1 0 9;");
        c.fails("no debt", STATE, () -> x.payDebt(1, 1));
        x.takeBlanket(1, 0);
        x.passHours(8);
        // a owes 3 and got the pot of 3.
        c.same("ledger", "a=3-3/0 b=3/0", Checks.ledger(x).replaceAll("/\\d", "/0"));
        c.fails("more than there is", STATE, () -> x.payDebt(0, 4));
        c.same("payDebt(0, 1)", 2, x.payDebt(0, 1));
        c.same("coinsOf(0)", 2, x.coinsOf(0));
        c.same("debtOf(0)", 2, x.debtOf(0));
        c.same("hutCoins", 4, x.hutCoins());
        c.fails("the debt is smaller", STATE, () -> x.payDebt(0, 3));
        c.same("payDebt(0, 2)", 0, x.payDebt(0, 2));
        c.same("auditDifference", 0, x.auditDifference());
        c.fails("payDebt(0, 0)", ARGUMENT, () -> x.payDebt(0, 0));
        c.fails("payDebt(0, 100)", ARGUMENT, () -> x.payDebt(0, 100));
        c.fails("payDebt(0, -1)", ARGUMENT, () -> x.payDebt(0, -1));
        c.fails("payDebt(2, 0)", INDEX, () -> x.payDebt(2, 0));
        c.fails("payDebt(-1, 1)", INDEX, () -> x.payDebt(-1, 1));
        c.fails("payDebt(1, 99)", STATE, () -> x.payDebt(1, 99));
        c.same("what throws is no action", 3, x.undo());
        c.same("undone", 2, x.debtOf(0));
        x.undo();
        c.same("all coins for all of the debt", 0, x.payDebt(0, 3));
        c.same("ledger", "a=0/0 b=3/0", Checks.ledger(x).replaceAll("/\\d", "/0"));
        x.passHours(8);
        c.same("ledger", "a=0-3/0 b=0-3/0", Checks.ledger(x).replaceAll("/\\d+", "/0"));
        c.fails("no coins", STATE, () -> x.payDebt(0, 1));
    }

    private static void promise59() {
        c.begin("promise 59");
        HutLedger x = new HutLedger();
        c.fails("passHours(0)", ARGUMENT, () -> x.passHours(0));
        c.fails("passHours(49)", ARGUMENT, () -> x.passHours(49));
        c.fails("passHours(-1)", ARGUMENT, () -> x.passHours(-1));
        c.same("passHours(7)", 0, x.passHours(7));
        c.same("passHours(1)", 3 + 3 + 3 + 1, x.passHours(1));
        c.same("passHours(48)", 9 + 2 + 18, x.passHours(48));
        c.same("hour", 56, x.hour());
        c.same("what throws is no action", 2, x.undo());
        c.same("hour", 8, x.hour());
        c.same("hutCoins", 10, x.hutCoins());
        for (int i = 0; i < 208; i++) {
            x.passHours(48);
        }
        c.same("hour", 9992, x.hour());
        c.fails("passHours(8)", STATE, () -> x.passHours(8));
        c.fails("passHours(49)", ARGUMENT, () -> x.passHours(49));
        c.same("passHours(7)", 0, x.passHours(7));
        c.same("hour", 9999, x.hour());
        c.fails("passHours(1)", STATE, () -> x.passHours(1));
        HutLedger y = Checks.hut("hut 0;bunks 0;blankets 9;forecast 1;hiker 1 0 9;");
        y.takeBlanket(0, 0);
        c.same("with what comes of the pot", 6, y.passHours(8));
    }

    // ---- output, undo and snapshots

    private static void outputUndoAndSnapshots() {
        promise60();
        promise61();
        promise62();
        promise63();
        promises64And65();
        snapshotsOfOtherHuts();
    }

    private static void promise60() {
        c.begin("promise 60");
        HutLedger x = new HutLedger();
        c.same("writeBunks", 9, x.writeBunks());
        c.same("bunks", "- - - - -", Checks.output(x, 9));
        Checks.script(x, "burn 2;take 2 1;lie 0 2;lie 1 1;lie 3 0;");
        c.same("bunks", "d! b? a - -", Checks.bunks(x));
        c.same("writeBunks", 11, x.writeBunks());
        c.same("with thicknesses", 3, Checks.script(x, "take 3 2;take 1 0;lie 2 4;"));
        c.same("bunks", "d2 b3? a - c5!", Checks.bunks(x));
        HutLedger y = Checks.hut("hut 0;bunks 0;blankets 9;forecast 9;" + "hiker 1 0 0;".repeat(10));
        y.lieDown(9, 0);
        c.same("one bunk", "j", Checks.bunks(y));
        y.takeBlanket(9, 0);
        c.same("one bunk", "j9", Checks.bunks(y));
        HutLedger thin = Checks.hut("hut 0;bunks 0;blankets 1;forecast 9;hiker 1 0 0;");
        Checks.script(thin, "take 0 0;lie 0 0;");
        c.same("thickness 1", "a1", Checks.bunks(thin));
    }

    private static void promise61() {
        c.begin("promise 61");
        HutLedger x = new HutLedger();
        c.same("ledger", "a=12/0 b=5/0 c=30/0 d=1/0", Checks.ledger(x));
        c.same("writeLedger", 25, x.writeLedger());
        x.lieDown(1, 2);
        x.takeBlanket(1, 1);
        x.passHours(16);
        c.same("ledger", "a=6/0 b=0-5/16 c=24/0 d=0-5/0", Checks.ledger(x));
        HutLedger y = Checks.hut("hut 99;bunks 0;blankets;forecast 9;hiker 1 0 0;");
        Checks.script(y, "lie 0 0;burn 3;pass 48;pass 48;pass 48;");
        c.same("many digits", "a=0-" + (18 * 3 + 198) + "/144", Checks.ledger(y));
    }

    private static void promise62() {
        c.begin("promise 62");
        HutLedger x = new HutLedger();
        c.same("outputByte(0)", -1, x.outputByte(0));
        x.writeLedger();
        c.same("outputByte(0)", 97, x.outputByte(0));
        c.same("outputByte(1)", 61, x.outputByte(1));
        c.same("outputByte(4)", 47, x.outputByte(4));
        c.same("outputByte(24)", '0', x.outputByte(24));
        c.same("outputByte(25)", -1, x.outputByte(25));
        c.same("outputByte(-1)", -1, x.outputByte(-1));
        c.same("outputByte(highest)", -1, x.outputByte(Integer.MAX_VALUE));
        c.same("outputByte(lowest)", -1, x.outputByte(Integer.MIN_VALUE));
        Checks.script(x, "lie 0 0;pass 8;");
        x.saveSnapshot(0);
        x.undo();
        x.restoreSnapshot(0);
        Checks.type(x, "hut 0;bunks 0;blankets;forecast 9;hiker 1 0 0;");
        x.loadSetup();
        c.same("only the writers change the output", "a=12/0 b=5/0 c=30/0 d=1/0", Checks.output(x, 25));
        x.writeBunks();
        c.same("outputByte(0)", 45, x.outputByte(0));
        c.same("the output is replaced", -1, x.outputByte(1));
    }

    private static void promise63() {
        c.begin("promise 63");
        HutLedger x = new HutLedger();
        c.fails("undo", STATE, x::undo);
        x.setRate(3);
        x.passHours(20);
        c.same("undo", 1, x.undo());
        c.same("ledger", "a=12/0 b=5/0 c=30/0 d=1/0", Checks.ledger(x));
        c.same("logs", 20, x.logs());
        c.same("temperature", 6, x.temperature());
        c.same("hour", 0, x.hour());
        c.same("burnedLogs", 0, x.burnedLogs());
        c.same("hutCoins", 0, x.hutCoins());
        c.same("hoursOf", 0, x.hoursOf(0, 0) + x.hoursOf(0, 3));
        c.same("undo", 0, x.undo());
        c.fails("undo", STATE, x::undo);
        c.same("the rate is undone", 0, x.setRate(0));
        for (int i = 1; i <= 7; i++) {
            x.fetchLogs(i);
        }
        for (int i = 5; i >= 3; i--) {
            c.same("undo", i, x.undo());
        }
        c.same("logs", 20 + 1 + 2 + 3 + 4, x.logs());
        x.fetchLogs(20);
        c.same("undo after a new action", 3, x.undo());
        for (int i = 2; i >= 0; i--) {
            c.same("undo", i, x.undo());
        }
        c.same("the seventh action stays", 21, x.logs());
        c.fails("undo", STATE, x::undo);
        undoLeavesTheRest();
    }

    private static void undoLeavesTheRest() {
        HutLedger x = new HutLedger();
        Checks.script(x, "burn 9;");
        Checks.script(x, "lie 0 0;");
        Checks.script(x, "burn 9;");
        x.writeBunks();
        Checks.type(x, "burn 1;");
        x.saveSnapshot(0);
        x.undo();
        c.same("the hut", -1, x.bunkOf(0));
        c.same("errorCode", 2, x.errorCode());
        c.same("errorPosition", 5, x.errorPosition());
        c.same("outputByte(1)", 33, x.outputByte(1));
        c.same("the text", 1, x.runScript());
        x.restoreSnapshot(0);
        c.same("the snapshot", 0, x.bunkOf(0));
    }

    private static void promises64And65() {
        c.begin("promises 64 and 65");
        HutLedger x = new HutLedger();
        c.fails("saveSnapshot(2)", ARGUMENT, () -> x.saveSnapshot(2));
        c.fails("saveSnapshot(-1)", ARGUMENT, () -> x.saveSnapshot(-1));
        c.fails("restoreSnapshot(2)", ARGUMENT, () -> x.restoreSnapshot(2));
        c.fails("restoreSnapshot(-1)", ARGUMENT, () -> x.restoreSnapshot(-1));
        c.fails("restoreSnapshot(1)", STATE, () -> x.restoreSnapshot(1));
        x.setRate(1);
        x.passHours(10);
        x.saveSnapshot(1);
        c.same("saving is not an action", 1, x.undo());
        c.fails("restoreSnapshot(0)", STATE, () -> x.restoreSnapshot(0));
        x.saveSnapshot(0);
        x.lieDown(0, 0);
        x.restoreSnapshot(1);
        c.same("hour", 10, x.hour());
        c.same("logs", 10, x.logs());
        c.same("bunkOf(0)", -1, x.bunkOf(0));
        c.fails("no action can be undone", STATE, x::undo);
        x.passHours(1);
        c.same("what comes after can", 0, x.undo());
        x.fetchLogs(5);
        x.restoreSnapshot(1);
        c.same("the snapshot stays saved", 10, x.logs());
        x.restoreSnapshot(0);
        c.same("hour", 0, x.hour());
        c.same("the rate is saved", 1, x.setRate(0));
        x.lieDown(2, 2);
        x.saveSnapshot(0);
        x.getUp(2);
        x.restoreSnapshot(0);
        c.same("in place of the earlier one", 2, x.bunkOf(2));
        x.lieDown(2, 3);
        c.fails("restoreSnapshot(2)", ARGUMENT, () -> x.restoreSnapshot(2));
        c.same("what throws forgets nothing", 0, x.undo());
    }

    private static void snapshotsOfOtherHuts() {
        HutLedger x = Checks.hut("hut 3;bunks 1 1;blankets 7;forecast 5;hiker 2 6 8;");
        Checks.script(x, "lie 0 1;take 0 0;burn 1;pass 9;");
        x.saveSnapshot(0);
        String ledger = Checks.ledger(x);
        Checks.type(x, "hut 9;bunks" + " 5".repeat(12) + ";blankets" + " 9".repeat(12) + ";forecast" + " 9".repeat(12)
                + ";" + "hiker 30 9 99;".repeat(10));
        x.loadSetup();
        Checks.script(x, "lie 9 0;lie 8 1;lie 7 2;take 9 0;pass 30;");
        x.restoreSnapshot(0);
        c.same("ledger", ledger, Checks.ledger(x));
        c.same("bunks", "- a7", Checks.bunks(x));
        c.same("noiseIn(0)", 6, x.noiseIn(0));
        c.same("hikerCount", 1, x.hikerCount());
        c.same("temperatureAfter(1)", 5, x.temperatureAfter(1));
        c.same("warmth(0)", x.temperature() + 1 + 7, x.warmth(0));
        c.fails("hikerIn(2)", INDEX, () -> x.hikerIn(2));
        c.fails("userOf(1)", INDEX, () -> x.userOf(1));
        c.fails("coinsOf(1)", INDEX, () -> x.coinsOf(1));
        c.same("auditDifference", 0, x.auditDifference());
        c.same("meanWarmth", x.warmth(0), x.meanWarmth());
    }
}
