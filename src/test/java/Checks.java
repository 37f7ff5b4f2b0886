/** What the tests have in common: comparing, counting what is wrong, and typing texts. */
final class Checks {
    private int wrong = 0;
    private int compared = 0;
    private String part = "";

    /** A call whose exception is looked at. */
    interface Call {
        void run();
    }

    void begin(String name) {
        part = name;
    }

    void same(String call, double due, double got) {
        compared++;
        if (got != due) {
            wrong++;
            System.out.println(part + ": " + call + " answered " + got + ", due is " + due);
        }
    }

    void same(String call, String due, String got) {
        compared++;
        if (!got.equals(due)) {
            wrong++;
            System.out.println(part + ": " + call + " answered '" + got + "', due is '" + due + "'");
        }
    }

    void fails(String call, Class<? extends RuntimeException> due, Call run) {
        same(call, due.getName(), thrownBy(run));
    }

    static String thrownBy(Call run) {
        try {
            run.run();
            return "nothing";
        } catch (RuntimeException thrown) {
            return thrown.getClass().getName();
        }
    }

    /** Prints the sum of it and ends the program with exit code 1 if anything was wrong. */
    void end(String name) {
        System.out.println(name + ": " + compared + " answers, " + wrong + " not as due");
        if (wrong != 0 || compared == 0) {
            System.exit(1);
        }
    }

    /** Puts a text of at most 500 bytes into the empty text buffer. */
    static void type(HutLedger ledger, String text) {
        for (int i = 0; i < text.length(); i += 4) {
            int four = 0;
            for (int j = i; j < i + 4; j++) {
                four = four << 8 | (j < text.length() ? text.charAt(j) : 0);
            }
            ledger.appendText(four);
        }
        ledger.truncateText(text.length());
    }

    static HutLedger hut(String setup) {
        HutLedger ledger = new HutLedger();
        type(ledger, setup);
        if (ledger.loadSetup() == HutLedger.NONE) {
            throw new IllegalArgumentException("a wrong setup: " + setup);
        }
        return ledger;
    }

    static int script(HutLedger ledger, String text) {
        type(ledger, text);
        return ledger.runScript();
    }

    static String output(HutLedger ledger, int length) {
        StringBuilder text = new StringBuilder();
        for (int i = 0; i < length; i++) {
            text.append((char) ledger.outputByte(i));
        }
        return text.toString();
    }

    static String bunks(HutLedger ledger) {
        return output(ledger, ledger.writeBunks());
    }

    static String ledger(HutLedger ledger) {
        return output(ledger, ledger.writeLedger());
    }
}
