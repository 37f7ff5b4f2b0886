import java.util.function.Supplier;

/**
 * All that an object tells of itself, as one text, so that two objects can be compared. The looking spoils the
 * object: it undoes all actions and restores the snapshots, as what they hold shows in no other way.
 */
final class Portrait {
    private final HutLedger x;
    private final StringBuilder text = new StringBuilder();

    private Portrait(HutLedger x) {
        this.x = x;
    }

    static String of(HutLedger x) {
        Portrait portrait = new Portrait(x);
        portrait.tell("error", x::errorCode);
        portrait.tell("error", x::errorPosition);
        portrait.hut();
        portrait.typed();
        return portrait.text.toString();
    }

    /** Without what loadSetup and runScript always change: the text buffer and the reported error. */
    static String ofHut(HutLedger x) {
        Portrait portrait = new Portrait(x);
        portrait.hut();
        return portrait.text.toString();
    }

    /** Without the texts, the output, the past and the snapshots. */
    static String ofPresent(HutLedger x) {
        Portrait portrait = new Portrait(x);
        portrait.present();
        return portrait.text.toString();
    }

    private boolean tell(String name, Supplier<Object> call) {
        text.append(name).append(' ');
        try {
            text.append(call.get()).append('\n');
            return true;
        } catch (RuntimeException thrown) {
            text.append(thrown.getClass().getSimpleName()).append('\n');
            return false;
        }
    }

    private void hut() {
        output();
        present();
        past();
        snapshots();
    }

    private void present() {
        building();
        hikers();
        fairness();
        predictions();
        brief();
    }

    private void output() {
        for (int i = 0; x.outputByte(i) != HutLedger.NONE; i++) {
            text.append((char) x.outputByte(i));
        }
        text.append('\n');
    }

    private void building() {
        tell("quietestBunk", x::quietestBunk);
        boolean isThere = true;
        for (int i = 0; isThere; i++) {
            int bunk = i;
            isThere = tell("hikerIn", () -> x.hikerIn(bunk)) && tell("noiseIn", () -> x.noiseIn(bunk));
        }
        isThere = true;
        for (int i = 0; isThere; i++) {
            int blanket = i;
            isThere = tell("userOf", () -> x.userOf(blanket));
        }
        isThere = true;
        for (int i = 0; isThere; i++) {
            int rank = i;
            isThere = tell("blanketOnPile", () -> x.blanketOnPile(rank));
        }
    }

    private void hikers() {
        tell("hikerCount", x::hikerCount);
        for (int i = 0; i < x.hikerCount(); i++) {
            int hiker = i;
            tell("hikerAtRank", () -> x.hikerAtRank(hiker));
            tell("warmth", () -> x.warmth(hiker));
            tell("coinsOf", () -> x.coinsOf(hiker));
            tell("debtOf", () -> x.debtOf(hiker));
            for (int j = 0; j < 4; j++) {
                int activity = j;
                tell("hoursOf", () -> x.hoursOf(hiker, activity));
            }
        }
    }

    private void fairness() {
        tell("worstSnorer", x::worstSnorer);
        tell("coldHikers", x::coldHikers);
        tell("coldestHiker", x::coldestHiker);
        tell("bestExchange", x::bestExchange);
        tell("warmestBunk", () -> x.warmestBunk(0));
        tell("bestPlaceFor", () -> x.bestPlaceFor(0));
        tell("fittingBlanket", () -> x.fittingBlanket(0));
    }

    private void predictions() {
        tell("sleepShare", x::sleepShare);
        tell("auditDifference", x::auditDifference);
        tell("temperatureAfter", () -> x.temperatureAfter(1));
        tell("temperatureAfter", () -> x.temperatureAfter(9));
        tell("paymentAtDawn", () -> x.paymentAtDawn(0));
        tell("debtAfter", () -> x.debtAfter(0, 96));
        tell("hoursUntilNoLogs", x::hoursUntilNoLogs);
        tell("rateNeeded", x::rateNeeded);
    }

    /** What tells most of the hut in few calls: an object is used for 512 at most. */
    private void brief() {
        tell("hour", x::hour);
        tell("logs", x::logs);
        tell("temperature", x::temperature);
        tell("burnedLogs", x::burnedLogs);
        tell("hutCoins", x::hutCoins);
        tell("totalDebt", x::totalDebt);
        tell("hikersWithout", x::hikersWithout);
        tell("meanWarmth", x::meanWarmth);
        tell("longestRow", x::longestRow);
        tell("fewestCold", x::fewestCold);
    }

    private void past() {
        while (tell("undo", x::undo)) {
            brief();
        }
    }

    private void snapshots() {
        for (int i = 0; i < 2; i++) {
            int number = i;
            tell("restoreSnapshot", () -> {
                x.restoreSnapshot(number);
                return "";
            });
            brief();
        }
    }

    private void typed() {
        int length = lengthOfText();
        text.append("length ").append(length).append('\n');
        tell("runScript", x::runScript);
        tell("error", x::errorCode);
        tell("error", x::errorPosition);
        brief();
    }

    private int lengthOfText() {
        try {
            return x.truncateText(x.appendText(0) - 4);
        } catch (IllegalStateException nearlyFull) {
            int length = 500;
            while (length > 497 && !tell("truncateText", cut(length))) {
                length--;
            }
            return length;
        }
    }

    private Supplier<Object> cut(int length) {
        return () -> x.truncateText(length);
    }
}
