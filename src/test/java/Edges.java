import java.io.IOException;
import java.nio.file.Files;
import java.nio.file.Path;
import java.util.ArrayList;
import java.util.List;
import java.util.Map;
import java.util.NoSuchElementException;
import java.util.Set;
import java.util.TreeMap;
import java.util.TreeSet;
import java.util.function.Consumer;
import java.util.function.ObjIntConsumer;
import java.util.function.Supplier;

/**
 * What the tests of the edges have in common. Each test quotes the sentences of the document that it is of, so that
 * a sentence without a test, or a test of a sentence that the document does not say, comes to light.
 */
final class Edges {
    static final Class<IndexOutOfBoundsException> INDEX = IndexOutOfBoundsException.class;
    static final Class<IllegalArgumentException> ARGUMENT = IllegalArgumentException.class;
    static final Class<IllegalStateException> STATE = IllegalStateException.class;
    static final Class<NoSuchElementException> ELEMENT = NoSuchElementException.class;

    static final String FIRST = "hut 20; bunks 0 1 3 1 0; blankets 3 5 2; forecast 6 3 1 4; "
            + "hiker 10 8 12; hiker 7 2 5; hiker 12 0 30; hiker 9 5 1;";
    /** As few of everything as there may be, but for one blanket. */
    static final String LONE = "hut 5;bunks 0;blankets 1;forecast 0;hiker 1 0 0;";
    /** As many of everything as there may be. */
    static final String CROWD = "hut 50;bunks 0 1 2 3 4 5 0 1 2 3 4 5;blankets 1 2 3 4 5 6 7 8 9 1 2 3;"
            + "forecast 6 3 1 4 12 8 10 2 7 9 5 11;" + "hiker 9 8 20;".repeat(10);

    static final Supplier<HutLedger> LONE_LIVED = lived(LONE, "lie 0 0;take 0 0;burn 1;pass 9;");
    static final Supplier<HutLedger> CROWD_LIVED = lived(CROWD,
            "lie 0 0;lie 1 1;lie 9 11;take 0 0;take 9 11;burn 2;pass 9;");

    private static final Path DOCUMENT = Path.of("../shared/DOC.md");
    private static final Set<String> NO_SENTENCES = Set.of("Bunks.", "Blankets.", "Hikers.", "Stove.", "Weather.",
            "Warmth.", "Noise.", "One hour.", "Dawn.", "Actions.", "Setup text and script text.",
            "Errors in a text.", "1.", "2.", "3.");

    private final Checks c = new Checks();
    private final Map<String, List<String>> sentences = new TreeMap<>();
    private final Set<String> tested = new TreeSet<>();

    Edges() throws IOException {
        String part = "";
        for (String line : Files.readAllLines(DOCUMENT)) {
            if (line.startsWith("## ")) {
                part = line.substring(3).replaceFirst(":.*", "");
                sentences.put(part, new ArrayList<>());
            } else if (!part.isEmpty() && !line.isBlank()) {
                cut(line, sentences.get(part));
            }
        }
    }

    private static void cut(String line, List<String> into) {
        for (String sentence : line.split("(?<=\\.) ")) {
            into.add(sentence.replaceFirst("^`[^`]*`: ", ""));
        }
    }

    // ---- quoting

    /** Begins the test of those sentences of a part of the document which begin like this. */
    void of(String part, String... beginnings) {
        for (String beginning : beginnings) {
            List<String> found = sentences.getOrDefault(part, List.of()).stream()
                    .filter(sentence -> sentence.startsWith(beginning)).toList();
            c.begin(part);
            c.same("sentences that begin with '" + beginning + "'", 1, found.size());
            found.forEach(sentence -> tested.add(part + ": " + sentence));
        }
        c.begin(part + ", " + String.join(" ", beginnings));
    }

    void of(int promise, String... beginnings) {
        of("Promise " + promise, beginnings);
    }

    void end(String name) {
        c.begin("sentences without a test");
        sentences.forEach((part, said) -> {
            if (part.equals("Terms") || part.startsWith("Promise ")) {
                said.forEach(sentence -> demandTest(part, sentence));
            }
        });
        c.end(name);
    }

    private void demandTest(String part, String sentence) {
        String told = part + ": " + sentence;
        if (!NO_SENTENCES.contains(sentence) && !sentence.startsWith("Ahead of the calls")) {
            c.same("the test", told, tested.contains(told) ? told : "none");
        }
    }

    // ---- comparing

    void same(String call, double due, double got) {
        c.same(call, due, got);
    }

    void same(String call, String due, String got) {
        c.same(call, due, got);
    }

    /** The call throws what is due, and the object is afterwards as if there had been no call. */
    void refused(String call, Class<? extends RuntimeException> due, Supplier<HutLedger> made,
            Consumer<HutLedger> run) {
        HutLedger x = made.get();
        c.fails(call, due, () -> run.accept(x));
        c.same(call + " changes nothing", Portrait.of(made.get()), Portrait.of(x));
    }

    /** The calls only ask: the object is afterwards as if there had been none. */
    void onlyAsks(String call, Supplier<HutLedger> made, Consumer<HutLedger> run) {
        HutLedger x = made.get();
        run.accept(x);
        c.same(call + " changes nothing", Portrait.of(made.get()), Portrait.of(x));
    }

    // ---- numbers of hikers, bunks and blankets

    void hikerEdges(int promise, String call, ObjIntConsumer<HutLedger> run) {
        of(promise, "- `hiker`: number of a hiker", "Throws `IndexOutOfBoundsException` if there is no such hiker");
        hikerEdges(call, run);
    }

    void hikerEdges(String call, ObjIntConsumer<HutLedger> run) {
        indexEdges(call, LONE_LIVED, 1, run);
        indexEdges(call, CROWD_LIVED, 10, run);
    }

    void bunkEdges(String call, ObjIntConsumer<HutLedger> run) {
        indexEdges(call, LONE_LIVED, 1, run);
        indexEdges(call, CROWD_LIVED, 12, run);
    }

    void blanketEdges(String call, ObjIntConsumer<HutLedger> run) {
        indexEdges(call, lived(LONE.replace("blankets 1", "blankets"), "lie 0 0;burn 1;pass 9;"), 0, run);
        indexEdges(call, LONE_LIVED, 1, run);
        indexEdges(call, CROWD_LIVED, 12, run);
    }

    private void indexEdges(String call, Supplier<HutLedger> made, int count, ObjIntConsumer<HutLedger> run) {
        for (int number : new int[] {Integer.MIN_VALUE, -1, count, count + 1, Integer.MAX_VALUE}) {
            refused(call + " of " + number, INDEX, made, x -> run.accept(x, number));
        }
        for (int number = 0; number < count; number += Math.max(1, count - 1)) {
            int there = number;
            String thrown = Checks.thrownBy(() -> run.accept(made.get(), there));
            c.same(call + " of " + number, "there", thrown.equals(INDEX.getName()) ? "no such number" : "there");
        }
    }

    /** An argument of low to high: both are allowed, those below and above are refused. */
    void argumentEdges(String call, int low, int high, Supplier<HutLedger> made, ObjIntConsumer<HutLedger> run) {
        for (int value : new int[] {Integer.MIN_VALUE, low - 1, high + 1, Integer.MAX_VALUE}) {
            refused(call + " with " + value, ARGUMENT, made, x -> run.accept(x, value));
        }
        for (int value : new int[] {low, high}) {
            c.same(call + " with " + value, "nothing", Checks.thrownBy(() -> run.accept(made.get(), value)));
        }
    }

    // ---- objects

    static Supplier<HutLedger> fresh(String setup) {
        return () -> Checks.hut(setup);
    }

    /** A hut with a past: actions, a snapshot, an error, an output, and a text that is being typed. */
    static Supplier<HutLedger> lived(String setup, String script) {
        return () -> {
            HutLedger x = Checks.hut(setup);
            x.saveSnapshot(0);
            after(x, script);
            Checks.script(x, "burn 9;");
            x.writeBunks();
            Checks.type(x, "burn 3;");
            return x;
        };
    }

    static HutLedger hut(String setup, String script) {
        return after(Checks.hut(setup), script);
    }

    /** Runs a script that must be right up to its end. */
    static HutLedger after(HutLedger x, String script) {
        long commands = script.chars().filter(sign -> sign == ';').count();
        if (Checks.script(x, script) != commands) {
            throw new IllegalArgumentException("a script that stops: " + script);
        }
        return x;
    }

    /** The first hut at the last hour that there is. */
    static HutLedger old() {
        HutLedger x = new HutLedger();
        for (int i = 0; i < 208; i++) {
            x.passHours(48);
        }
        x.passHours(15);
        return x;
    }

    // ---- texts

    void rightSetup(int hikers, String setup) {
        HutLedger x = new HutLedger();
        Checks.type(x, setup);
        same("loadSetup of " + setup, hikers, x.loadSetup());
        same("errorCode of " + setup, 0, x.errorCode());
        same("errorPosition of " + setup, HutLedger.NONE, x.errorPosition());
        same("length of the text after " + setup, 4, x.appendText(0));
    }

    /** The sign ^ stands before the first wrong byte and is not a part of the text. */
    void wrongSetup(int code, String marked) {
        HutLedger x = typed(marked);
        same("loadSetup of " + marked, HutLedger.NONE, x.loadSetup());
        wrongText(code, marked, x);
    }

    void rightScript(int executed, String script) {
        HutLedger x = CROWD_LIVED.get();
        x.truncateText(0);
        same("runScript of " + script, executed, Checks.script(x, script));
        same("errorCode of " + script, 0, x.errorCode());
        same("errorPosition of " + script, HutLedger.NONE, x.errorPosition());
        same("length of the text after " + script, 4, x.appendText(0));
    }

    /** The sign ^ stands before the first wrong byte and is not a part of the text. */
    void wrongScript(int code, String marked) {
        HutLedger x = typed(marked);
        same("runScript of " + marked, HutLedger.NONE, x.runScript());
        wrongText(code, marked, x);
    }

    private static HutLedger typed(String marked) {
        HutLedger x = LONE_LIVED.get();
        x.truncateText(0);
        Checks.type(x, marked.replace("^", ""));
        return x;
    }

    private void wrongText(int code, String marked, HutLedger x) {
        same("errorCode of " + marked, code, x.errorCode());
        same("errorPosition of " + marked, marked.indexOf('^'), x.errorPosition());
        same("length of the text after " + marked, 4, x.appendText(0));
        same("the hut after " + marked, Portrait.ofHut(LONE_LIVED.get()), Portrait.ofHut(x));
    }
}
