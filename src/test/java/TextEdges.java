import java.util.function.Consumer;
import java.util.function.Supplier;

/** The edges of promises 1 to 7, and of what the part "Terms" says of texts. */
final class TextEdges {
    private static final String HOUSE = "hut 1;bunks 1;blankets;forecast 1;";
    private static final String HIKER = "hiker 1 0 0;";
    private static final String TWELVE = " 1 1 1 1 1 1 1 1 1 1 1 1";
    private static final String[] ONE_NUMBER = {"return", "rise", "burn", "fetch", "pass"};
    private static final String[] TWO_NUMBERS = {"take", "swap", "lie", "pay"};
    private static final int NONE = HutLedger.NONE;

    private final Edges e;

    TextEdges(Edges e) {
        this.e = e;
    }

    void run() {
        lengthOfTexts();
        tokens();
        numbersOfAnyLength();
        blanks();
        setupGrammar();
        wordsOfASetup();
        hikerGrammar();
        scriptGrammar();
        rangesInAScript();
        commands();
        scriptStops();
        commandsAreActions();
        errorPositions();
        errorCodes();
        newObject();
        appendText();
        truncateText();
        loadSetup();
        newHutInPlaceOfAnother();
        runScript();
        errorOfTheMostRecentText();
    }

    // ---- terms: tokens

    private void lengthOfTexts() {
        e.of("Terms", "Both are ASCII texts of at most 500 bytes");
        e.rightSetup(1, HOUSE + HIKER + " ".repeat(500 - HOUSE.length() - HIKER.length()));
        e.rightSetup(1, " ".repeat(500 - HOUSE.length() - HIKER.length()) + HOUSE + HIKER);
        e.wrongSetup(1, HOUSE + HIKER + " ".repeat(499 - HOUSE.length() - HIKER.length()) + "^;");
        e.wrongSetup(1, HOUSE + " ".repeat(500 - HOUSE.length()) + "^");
        e.rightScript(1, "burn 1;" + "\n".repeat(493));
        e.rightScript(1, " ".repeat(493) + "burn 1;");
        e.wrongScript(1, " ".repeat(494) + "burn 1^");
        e.wrongScript(1, " ".repeat(499) + "^;");
        e.rightScript(0, " ".repeat(500));
        e.rightScript(0, "");
        for (char sign = 128; sign < 256; sign++) {
            e.wrongScript(1, "burn 1;^" + sign);
        }
    }

    /** Puts each byte between the word and the number of "burn1;", and behind the number of "burn 1;". */
    private void tokens() {
        e.of("Terms", "Their tokens are words");
        for (char sign = 0; sign < 256; sign++) {
            if ('a' <= sign && sign <= 'z') {
                e.wrongScript(1, "^burn" + sign + "1;");
                e.wrongScript(1, "burn 1^" + sign + ";");
            } else if ('0' <= sign && sign <= '9') {
                oneMoreDigit(sign);
            } else if (sign == ';') {
                e.wrongScript(1, "burn^;1;");
                e.wrongScript(1, "burn 1;^;");
            } else if (sign == ' ' || sign == '\n') {
                e.rightScript(1, "burn" + sign + "1;");
                e.rightScript(1, "burn 1" + sign + ";");
            } else if (sign != '^') {
                e.wrongScript(1, "burn^" + sign + "1;");
                e.wrongScript(1, "burn 1^" + sign + ";");
            }
        }
        HutLedger x = new HutLedger();
        e.same("a caret, which marks the place elsewhere", NONE, Checks.script(x, "burn 1^;"));
        e.same("errorPosition", 6, x.errorPosition());
    }

    private void oneMoreDigit(char digit) {
        if (digit == '0') {
            e.rightScript(1, "burn" + digit + "1;");
        } else {
            e.wrongScript(2, "burn^" + digit + "1;");
        }
        e.wrongScript(2, "burn ^1" + digit + ";");
    }

    private void numbersOfAnyLength() {
        e.of("Terms", "Their tokens are words (maximal sequences of the letters a to z), numbers");
        String zeros = "0".repeat(480);
        e.rightScript(1, "burn " + zeros + "3;");
        e.rightScript(1, "burn " + zeros + ";");
        e.wrongScript(2, "burn ^" + zeros + "4;");
        e.wrongScript(2, "burn ^1" + zeros + ";");
        e.wrongScript(2, "burn ^" + "9".repeat(490) + ";");
        String[] wrapping = {"256", "257", "1000", "1001", "10000", "10001", "65536", "65537", "2147483647",
            "2147483648", "4294967295", "4294967296", "4294967297", "18446744073709551616", "18446744073709551617"};
        for (String number : wrapping) {
            e.wrongScript(2, "burn ^" + number + ";");
            e.wrongSetup(2, "hut ^" + number + ";bunks 1;");
        }
        e.same("fetch 00..50", 55, Edges.hut(Edges.LONE, "fetch " + zeros + "50;").logs());
        e.wrongScript(1, "^" + "z".repeat(490));
    }

    private void blanks() {
        e.of("Terms", "Spaces (byte 32) and line feeds (byte 10)");
        e.rightSetup(1, "hut1;bunks1;blankets;forecast1;hiker1 0 0;");
        e.rightSetup(1, "\n hut \n 1 \n\n;  bunks\n1\n;\nblankets\n;\nforecast\n1\n;\nhiker\n1\n0\n0\n;\n \n");
        e.rightScript(2, "burn1;take1 1;");
        e.rightScript(2, "\n\n burn \n 1 \n ; take\n1\n1\n;\n ");
        e.rightScript(0, "\n");
        e.wrongScript(1, "^b urn 1;");
        e.wrongScript(2, "take ^11;");
        e.wrongScript(1, "burn 0 ^1;");
        e.wrongScript(1, "burn 1;^\r\n");
        e.wrongScript(1, "burn^\t1;");
    }

    // ---- terms: the grammar

    private void setupGrammar() {
        e.of("Terms", "The grammar, with { X }", "setup = ");
        e.rightSetup(1, HOUSE + HIKER);
        e.rightSetup(2, "hut 1;bunks 1 2;blankets 1 2;forecast 1 2;" + HIKER + HIKER);
        String[] wrong = {"^", "^;", "^1", "^x", "^bunks 1;", "^hu 1;", "^huts 1;", "^Hut 1;", "^a hut 1;", "hut^",
            "hut^;", "hut ^x;", "hut ^hut 1;", "hut 1^", "hut 1 ^1;", "hut 1 ^bunks 1;", "hut 1;^", "hut 1;^;",
            "hut 1;^1", "hut 1;^bunk 1;", "hut 1;^blankets;", "hut 1;bunks^", "hut 1;bunks^;", "hut 1;bunks ^x;",
            "hut 1;bunks ^blankets;", "hut 1;bunks 1^", "hut 1;bunks 1 ^x;", "hut 1;bunks 1 ^blankets;",
            "hut 1;bunks 1;^", "hut 1;bunks 1;^;", "hut 1;bunks 1;^1;", "hut 1;bunks 1;^forecast 1;",
            "hut 1;bunks 1;blankets^", "hut 1;bunks 1;blankets ^x;", "hut 1;bunks 1;blankets ^forecast 1;",
            "hut 1;bunks 1;blankets 1^", "hut 1;bunks 1;blankets 1 ^forecast 1;", "hut 1;bunks 1;blankets;^",
            "hut 1;bunks 1;blankets;^;", "hut 1;bunks 1;blankets;^hiker 1 0 0;", "hut 1;bunks 1;blankets;forecast^",
            "hut 1;bunks 1;blankets;forecast^;", "hut 1;bunks 1;blankets;forecast ^hiker 1 0 0;",
            "hut 1;bunks 1;blankets;forecast 1^", "hut 1;bunks 1;blankets;forecast 1 ^hiker 1 0 0;",
            HOUSE + "^", HOUSE + "^;", HOUSE + "^1", HOUSE + "^hut 1;"};
        for (String marked : wrong) {
            e.wrongSetup(1, marked);
        }
    }

    /** Each letter of each word of a setup, replaced by another one. */
    private void wordsOfASetup() {
        e.of("Terms", "setup = ");
        String before = "";
        for (String part : new String[] {"hut 1;", "bunks 1;", "blankets;", "forecast 1;", "hiker 1 0 0;"}) {
            for (int i = 0; 'a' <= part.charAt(i) && part.charAt(i) <= 'z'; i++) {
                e.wrongSetup(1, before + "^" + withZ(part, i));
            }
            before += part;
        }
        e.rightSetup(1, before);
    }

    private static String withZ(String text, int place) {
        return text.substring(0, place) + "z" + text.substring(place + 1);
    }

    private void hikerGrammar() {
        e.of("Terms", "hiker = ");
        String[] wrong = {"^hike 1 0 0;", "^hikers 1 0 0;", "^hikes 1 0 0;", "hiker^", "hiker^;", "hiker ^x",
            "hiker ^hiker", "hiker 1^", "hiker 1^;", "hiker 1 ^x", "hiker 1 0^", "hiker 1 0^;", "hiker 1 0 ^x",
            "hiker 1 0 0^", "hiker 1 0 0 ^0;", "hiker 1 0 0 ^hiker 1 0 0;", HIKER + "^;", HIKER + "^1",
            HIKER + "^hut 1;", HIKER + "^take 0 0;", HIKER + "hiker 1 0^;"};
        for (String marked : wrong) {
            e.wrongSetup(1, HOUSE + marked);
        }
    }

    private void scriptGrammar() {
        e.of("Terms", "script = ", "command = ");
        String[] wrong = {"^;", "^1", "^x;", "^hut 1;", "^hiker 1 0 0;", "^Burn 1;", "burn 1;^;", "burn 1;^1",
            "burn 1;^x", "burn 1;^takeaway 1 1;"};
        for (String marked : wrong) {
            e.wrongScript(1, marked);
        }
        for (String word : ONE_NUMBER) {
            wordOfACommand(word, word + " 1");
        }
        for (String word : TWO_NUMBERS) {
            wordOfACommand(word, word + " 1 1");
            e.wrongScript(1, word + " 1^");
            e.wrongScript(1, word + " 1^;");
            e.wrongScript(1, word + " 1 ^x;");
        }
    }

    private void wordOfACommand(String word, String command) {
        HutLedger x = new HutLedger();
        Checks.script(x, command + ";");
        e.same("errorCode of " + command, 0, x.errorCode());
        e.wrongScript(1, "^" + word.substring(1) + " 1 1;");
        e.wrongScript(1, "^" + word.substring(0, word.length() - 1) + " 1 1;");
        e.wrongScript(1, "^" + word + "s 1 1;");
        for (int i = 0; i < word.length(); i++) {
            e.wrongScript(1, "^" + withZ(command, i) + ";");
        }
        e.wrongScript(1, word + "^");
        e.wrongScript(1, word + "^;");
        e.wrongScript(1, word + " ^x;");
        e.wrongScript(1, command + "^");
        e.wrongScript(1, command + " ^1;");
        e.wrongScript(1, command + " ^x;");
        e.wrongScript(1, command + " ^" + command + ";");
    }

    private void rangesInAScript() {
        e.of("Terms", "In a script, hiker is 0 to 9");
        range("take # 0", 0, 9);
        range("take 0 #", 0, 11);
        range("return #", 0, 9);
        range("swap # 0", 0, 9);
        range("swap 0 #", 0, 9);
        range("lie # 0", 0, 9);
        range("lie 0 #", 0, 11);
        range("rise #", 0, 9);
        range("burn #", 0, 3);
        range("fetch #", 1, 50);
        range("pay # 1", 0, 9);
        range("pay 0 #", 1, 99);
        range("pass #", 1, 48);
    }

    private void range(String command, int low, int high) {
        for (int number : new int[] {low, high}) {
            HutLedger x = new HutLedger();
            Checks.script(x, command.replace("#", "" + number) + ";");
            e.same("errorCode of " + command + " with " + number, 0, x.errorCode());
        }
        e.wrongScript(2, command.replace("#", "^" + (high + 1)) + ";");
        if (low > 0) {
            e.wrongScript(2, command.replace("#", "^" + (low - 1)) + ";");
        }
    }

    private void commands() {
        e.of("Terms", "The commands correspond to takeBlanket");
        String setup = "hut 9;bunks 1 2;blankets 9 1;forecast 1;hiker 1 4 0;hiker 1 0 6;";
        Supplier<HutLedger> made = () -> Edges.hut(setup, "take 1 0;lie 0 1;pass 8;");
        sameAction("take 0 1;", made, x -> x.takeBlanket(0, 1));
        sameAction("return 1;", made, x -> x.returnBlanket(1));
        sameAction("swap 0 1;", made, x -> x.swapBlankets(0, 1));
        sameAction("lie 1 0;", made, x -> x.lieDown(1, 0));
        sameAction("rise 0;", made, x -> x.getUp(0));
        sameAction("burn 3;", made, x -> x.setRate(3));
        sameAction("fetch 4;", made, x -> x.fetchLogs(4));
        sameAction("pay 0 2;", made, x -> x.payDebt(0, 2));
        sameAction("pass 9;", made, x -> x.passHours(9));
    }

    private void sameAction(String command, Supplier<HutLedger> made, Consumer<HutLedger> call) {
        HutLedger x = made.get();
        call.accept(x);
        e.same(command, Portrait.ofHut(x), Portrait.ofHut(Edges.after(made.get(), command)));
    }

    private void scriptStops() {
        e.of("Terms", "A script stops before the first command");
        String[] refused = {"take 1 0;", "take 0 1;", "take 0 0;", "take 9 11;", "return 1;", "return 9;", "swap 0 1;",
            "swap 1 0;", "swap 0 0;", "lie 1 0;", "lie 0 1;", "lie 0 0;", "lie 9 11;", "rise 1;", "rise 9;",
            "pay 1 1;", "pay 0 1;", "pay 0 99;", "pay 9 99;"};
        for (String command : refused) {
            stops("", command);
        }
        stops("return 0;", "return 0;");
        stops("rise 0;", "rise 0;");
        stops("return 0;", "swap 0 0;");
        stops("fetch 50;", "fetch 50;");
        HutLedger old = Edges.old();
        e.same("pass beyond 9999", 1, Checks.script(old, "burn 1;pass 1;burn 2;"));
        e.same("rate", 1, old.setRate(0));
    }

    private void stops(String before, String refused) {
        int executed = before.isEmpty() ? 0 : 1;
        HutLedger x = Edges.LONE_LIVED.get();
        x.truncateText(0);
        e.same("first: " + refused, executed, Checks.script(x, before + refused + "burn 3;"));
        e.same("errorCode of " + refused, 0, x.errorCode());
        e.same("errorPosition of " + refused, NONE, x.errorPosition());
        e.same("the rest is not executed", 1, x.setRate(1));
        HutLedger y = Edges.LONE_LIVED.get();
        HutLedger due = Edges.LONE_LIVED.get();
        y.truncateText(0);
        due.truncateText(0);
        e.same("last: " + refused, executed + 2, Checks.script(y, before + "burn 2;burn 3;" + refused));
        Checks.script(due, before + "burn 2;burn 3;");
        e.same(refused + " changes nothing", Portrait.of(due), Portrait.of(y));
    }

    private void commandsAreActions() {
        e.of("Terms", "Each command of a script is an action of its own");
        HutLedger x = Edges.hut(Edges.FIRST, "fetch 1;fetch 2;fetch 3;");
        for (int i = 2; i >= 0; i--) {
            e.same("undo", i, x.undo());
        }
        e.same("logs", 20, x.logs());
        HutLedger stopped = new HutLedger();
        e.same("runScript", 2, Checks.script(stopped, "fetch 1;fetch 2;rise 0;fetch 3;"));
        e.same("undo", 1, stopped.undo());
        e.same("logs", 21, stopped.logs());
        HutLedger full = Edges.hut(Edges.FIRST, "fetch 1;".repeat(30));
        for (int i = 5; i >= 0; i--) {
            e.same("undo", i, full.undo());
        }
        e.same("logs", 44, full.logs());
        e.same("undo", "java.lang.IllegalStateException", Checks.thrownBy(full::undo));
    }

    // ---- terms: errors

    private void errorPositions() {
        e.of("Terms", "The parser reads tokens from left to right");
        e.wrongScript(2, "burn ^4;burn;x");
        e.wrongScript(1, "burn 1;^x;burn 9;");
        e.wrongScript(1, "burn^;burn 9;");
        e.wrongSetup(2, "hut ^100;bunks;");
        e.wrongSetup(1, "hut 1;bunks^;blankets 10;");
        e.of("Terms", "The error position is the index of the first byte");
        e.wrongScript(1, "^walking 1;");
        e.wrongScript(1, "  \n^walking 1;");
        e.wrongScript(2, "burn   ^1000000;");
        e.wrongScript(1, "burn 1;   ^A");
        e.wrongScript(1, "burn 1;   ^AB");
        e.wrongScript(1, "burn^");
        e.wrongScript(1, "burn \n ^");
        e.wrongScript(1, "burn 1^");
        e.wrongScript(1, "burn 1   ^");
        e.wrongSetup(1, "^");
        e.wrongSetup(1, "\n \n^");
        e.wrongSetup(1, HOUSE + "^");
        e.wrongSetup(1, HOUSE + "   ^");
        e.wrongSetup(1, HOUSE + "hiker 1 0 0 ^");
    }

    private void errorCodes() {
        e.of("Terms", "The error code is the lowest one that applies");
        thirteenth("hut 1;bunks", "0", "5", "6");
        thirteenth("hut 1;bunks 1;blankets", "1", "9", "0");
        thirteenth("hut 1;bunks 1;blankets", "1", "9", "10");
        thirteenth("hut 1;bunks 1;blankets;forecast", "0", "20", "21");
        String ten = HIKER.repeat(10);
        e.rightSetup(10, HOUSE + ten);
        e.wrongSetup(3, HOUSE + ten + "^" + HIKER);
        e.wrongSetup(3, HOUSE + ten + "^hiker");
        e.wrongSetup(3, HOUSE + ten + " \n^hiker 31 10 100;");
        e.wrongSetup(3, HOUSE + ten + "^hiker;");
        e.wrongSetup(1, HOUSE + ten + "^hikers 1 0 0;");
        e.wrongSetup(1, HOUSE + ten + "^hike");
        e.wrongSetup(1, HOUSE + ten + "^;");
        e.wrongSetup(1, HOUSE + ten + "^7");
        e.wrongSetup(1, HOUSE + ten + "^\u00ff");
        e.wrongSetup(1, HOUSE + HIKER.repeat(9) + "^hut");
        commandsBeyondThirty();
    }

    private void thirteenth(String row, String low, String high, String beyond) {
        e.wrongSetup(3, row + TWELVE + " ^" + low + ";");
        e.wrongSetup(3, row + TWELVE + " ^" + high);
        e.wrongSetup(3, row + TWELVE + "\n^00" + high + " 99999;");
        e.wrongSetup(2, row + TWELVE + " ^" + beyond + ";");
        e.wrongSetup(2, row + TWELVE + " ^999999999999;");
        e.wrongSetup(2, row + TWELVE.substring(2) + " ^" + beyond + ";");
        e.wrongSetup(1, row + TWELVE + " ^x;");
        e.wrongSetup(1, row + TWELVE + " ^\u00ff");
        e.wrongSetup(1, row + TWELVE + "^");
        e.wrongSetup(1, row + TWELVE + ";^;");
    }

    private void commandsBeyondThirty() {
        String thirty = "burn 1;".repeat(30);
        e.rightScript(30, thirty);
        e.rightScript(30, thirty + " \n ");
        for (String word : new String[] {"take", "return", "swap", "lie", "rise", "burn", "fetch", "pay", "pass"}) {
            e.wrongScript(3, thirty + "^" + word + " 1;");
            e.wrongScript(3, thirty + "\n ^" + word);
            e.wrongScript(1, thirty + "^" + word + "x 1;");
        }
        e.wrongScript(3, thirty + "^burn 9;");
        e.wrongScript(1, thirty + "^hut 1;");
        e.wrongScript(1, thirty + "^1");
        e.wrongScript(1, thirty + "^;");
        e.wrongScript(1, thirty + "^\0");
        e.wrongScript(2, thirty.substring(0, 208) + "^4;burn 1;");
        e.wrongScript(3, thirty + "^burn 1;" + "burn 1;".repeat(20));
    }

    // ---- promises 1 to 3

    private void newObject() {
        e.of(1, "Creates the hut of the setup text");
        HutLedger x = new HutLedger();
        e.same("hour", 0, x.hour());
        e.same("the text buffer is empty", 4, x.appendText(0));
        e.same("undo", Edges.STATE.getName(), Checks.thrownBy(x::undo));
        e.same("restoreSnapshot(0)", Edges.STATE.getName(), Checks.thrownBy(() -> x.restoreSnapshot(0)));
        e.same("restoreSnapshot(1)", Edges.STATE.getName(), Checks.thrownBy(() -> x.restoreSnapshot(1)));
        String setup = "hut 20; bunks 0 1 3 1 0; blankets 3 5 2; forecast 6 3 1 4; "
                + "hiker 10 8 12; hiker 7 2 5; hiker 12 0 30; hiker 9 5 1;";
        e.same("the hut of the text", Portrait.of(Checks.hut(setup)), Portrait.of(new HutLedger()));
        HutLedger other = new HutLedger();
        other.passHours(48);
        other.saveSnapshot(0);
        e.same("two objects have nothing in common", Portrait.of(Checks.hut(setup)), Portrait.of(new HutLedger()));
    }

    private void appendText() {
        e.of(2, "Appends four bytes to the text buffer", "- `fourBytes`: the bytes");
        int[] strange = {0x41202020, 0x20412020, 0x20204120, 0x20202041, 0xff202020, 0x202020ff, 0x20800000,
            Integer.MIN_VALUE, Integer.MAX_VALUE, -1, 0, 0x0a0a2000};
        int[] places = {0, 1, 2, 3, 0, 3, 1, 0, 0, 0, 0, 3};
        for (int i = 0; i < strange.length; i++) {
            HutLedger x = new HutLedger();
            e.same("appendText", 4, x.appendText(strange[i]));
            e.same("runScript", NONE, x.runScript());
            e.same("place of the byte in " + Integer.toHexString(strange[i]), places[i], x.errorPosition());
        }
        e.of(2, "Returns the new length of the text buffer");
        HutLedger x = new HutLedger();
        for (int length = 4; length <= 500; length += 4) {
            e.same("appendText", length, x.appendText(0x20202020));
        }
        e.same("all are there", 0, x.runScript());
        for (int length = 0; length <= 3; length++) {
            Checks.type(x, " ".repeat(length));
            e.same("appendText at " + length, length + 4, x.appendText(0x20202020));
            x.truncateText(0);
        }
        e.of(2, "Throws `IllegalStateException` if the text buffer would exceed 500 bytes");
        for (int length = 493; length <= 500; length++) {
            Supplier<HutLedger> made = nearlyFull(length);
            if (length > 496) {
                e.refused("appendText at " + length, Edges.STATE, made, full -> full.appendText(0x3b3b3b3b));
            } else {
                e.same("appendText at " + length, length + 4, made.get().appendText(0x3b3b3b3b));
            }
        }
    }

    private static Supplier<HutLedger> nearlyFull(int length) {
        return () -> {
            HutLedger x = Edges.LONE_LIVED.get();
            x.truncateText(0);
            Checks.type(x, "burn 2;" + " ".repeat(length - 7));
            return x;
        };
    }

    private void truncateText() {
        e.of(3, "- `length`: the new length", "Throws `IllegalArgumentException` if length is out of range");
        e.argumentEdges("truncateText of 7", 0, 7, Edges.LONE_LIVED, HutLedger::truncateText);
        e.argumentEdges("truncateText of 500", 0, 500, nearlyFull(500), HutLedger::truncateText);
        e.argumentEdges("truncateText of nothing", 0, 0, HutLedger::new, HutLedger::truncateText);
        e.onlyAsks("truncateText to the same length", Edges.LONE_LIVED, x -> x.truncateText(7));
        e.onlyAsks("truncateText to 500", nearlyFull(500), x -> x.truncateText(500));
        e.of(3, "Shortens the text buffer to its first bytes", "Returns the new length");
        HutLedger x = new HutLedger();
        Checks.type(x, "burn 3;burn 2;AB");
        for (int length = 16; length >= 14; length--) {
            e.same("truncateText", length, x.truncateText(length));
        }
        e.same("truncateText", 7, x.truncateText(7));
        x.appendText('b' << 24 | 'u' << 16 | 'r' << 8 | 'n');
        x.appendText(' ' << 24 | '1' << 16 | ';' << 8 | ';');
        e.same("truncateText", 14, x.truncateText(14));
        e.same("new bytes in place of those cut off", 2, x.runScript());
        e.same("rate", 1, x.setRate(0));
        Checks.type(x, "A");
        e.same("truncateText", 0, x.truncateText(0));
        e.same("nothing is left", 0, x.runScript());
    }

    // ---- promises 4 to 7

    private void loadSetup() {
        e.of(4, "Parses the text buffer as a setup", "Returns the number of hikers; NONE if the text has an error");
        e.rightSetup(1, Edges.LONE);
        e.rightSetup(10, Edges.CROWD);
        e.wrongSetup(1, Edges.LONE + "^x");
        e.wrongSetup(1, Edges.CROWD.substring(0, Edges.CROWD.length() - 1) + "^");
        e.wrongSetup(2, Edges.CROWD.substring(0, Edges.CROWD.length() - 3) + "^100;");
        e.wrongSetup(1, "^burn 1;");
        e.of(4, "The text buffer is empty after the call");
        for (String setup : new String[] {Edges.LONE, Edges.LONE + "x", "", "x"}) {
            HutLedger x = new HutLedger();
            Checks.type(x, setup);
            x.loadSetup();
            e.same("runScript of the empty buffer", 0, x.runScript());
            e.same("length", 4, x.appendText(0));
        }
        e.of(4, "Snapshots stay");
        String script = "lie 9 11;take 9 8;burn 3;pass 20;";
        HutLedger y = Edges.hut(Edges.CROWD, script);
        y.saveSnapshot(1);
        Checks.type(y, Edges.LONE);
        y.loadSetup();
        e.same("restoreSnapshot(0)", Edges.STATE.getName(), Checks.thrownBy(() -> y.restoreSnapshot(0)));
        y.restoreSnapshot(1);
        e.same("the snapshot", Portrait.ofPresent(Edges.hut(Edges.CROWD, script)), Portrait.ofPresent(y));
    }

    private void newHutInPlaceOfAnother() {
        e.of(4, "If the text has no error, the hut of the setup replaces the present one");
        String[] setups = {Edges.LONE, Edges.CROWD, Edges.FIRST};
        String[] lives = {"lie 0 0;take 0 0;burn 1;pass 8;pass 3;", "lie 9 11;lie 0 0;take 9 8;burn 3;pass 20;",
            "take 0 0;lie 3 4;burn 2;pass 9;"};
        for (int i = 0; i < setups.length; i++) {
            for (String setup : setups) {
                HutLedger x = Edges.hut(setups[i], lives[i]);
                Checks.type(x, setup);
                x.loadSetup();
                e.same("hour", 0, x.hour());
                e.same("hutCoins", 0, x.hutCoins());
                e.same("burnedLogs", 0, x.burnedLogs());
                e.same("totalDebt", 0, x.totalDebt());
                e.same("sleepShare", 0, x.sleepShare());
                e.same("undo", Edges.STATE.getName(), Checks.thrownBy(x::undo));
                e.same("all of it", Portrait.of(Checks.hut(setup)), Portrait.of(x));
            }
        }
    }

    private void runScript() {
        e.of(5, "Parses the text buffer as a script", "Returns the number of executed commands; NONE");
        e.rightScript(0, "");
        e.rightScript(1, "burn 2;");
        e.rightScript(30, "burn 2;".repeat(30));
        e.rightScript(0, "lie 0 1;");
        e.rightScript(29, "burn 2;".repeat(29) + "lie 0 1;");
        e.wrongScript(1, "burn 2;".repeat(29) + "burn 2^");
        e.wrongScript(2, "burn 2;".repeat(29) + "burn ^4;");
        e.wrongScript(3, "burn 2;".repeat(30) + "^burn 2;");
        e.wrongScript(2, "lie 1 0;burn ^4;");
        e.of(5, "The text buffer is empty after the call");
        for (String script : new String[] {"burn 1;", "burn 1;rise 0;burn 2;", "burn 1;x", "", "x"}) {
            HutLedger x = new HutLedger();
            Checks.script(x, script);
            e.same("runScript of the empty buffer", 0, x.runScript());
            e.same("length", 4, x.appendText(0));
        }
    }

    private void errorOfTheMostRecentText() {
        e.of(6, "Returns the error code of the most recent call", "Returns the code; 0 if that text had no error");
        e.of(7, "Returns the error position of the most recent call", "Returns the position; NONE if that text");
        HutLedger x = new HutLedger();
        reported(x, 0, NONE);
        Checks.type(x, "x");
        reported(x, 0, NONE);
        x.runScript();
        reported(x, 1, 0);
        Checks.type(x, Edges.FIRST);
        reported(x, 1, 0);
        x.loadSetup();
        reported(x, 0, NONE);
        Checks.type(x, "hut 100;");
        x.loadSetup();
        reported(x, 2, 4);
        x.runScript();
        reported(x, 0, NONE);
        Checks.script(x, "burn 1;".repeat(30) + " ".repeat(286) + "burn");
        reported(x, 3, 496);
        Checks.script(x, "rise 0;");
        reported(x, 0, NONE);
        Checks.script(x, " ".repeat(496) + "burn");
        reported(x, 1, 500);
        Checks.thrownBy(() -> x.truncateText(501));
        Checks.thrownBy(() -> x.hikerIn(-1));
        x.setRate(3);
        x.undo();
        x.saveSnapshot(1);
        x.restoreSnapshot(1);
        reported(x, 1, 500);
        x.loadSetup();
        reported(x, 1, 0);
    }

    private void reported(HutLedger x, int code, int position) {
        e.same("errorCode", code, x.errorCode());
        e.same("errorPosition", position, x.errorPosition());
    }
}
