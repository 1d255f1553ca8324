import java.io.IOException;
import java.nio.file.Files;
import java.nio.file.Path;
import java.util.ArrayList;
import java.util.Comparator;
import java.util.List;
import java.util.Map;
import java.util.Set;
import java.util.TreeMap;
import java.util.function.Consumer;
import java.util.function.Supplier;

/** What the tests by hand say with; those that need it extend it, so that they can name its methods plainly. */
abstract class Checks {
    static final Class<IndexOutOfBoundsException> INDEX = IndexOutOfBoundsException.class;
    static final Class<IllegalArgumentException> ARGUMENT = IllegalArgumentException.class;
    static final Class<IllegalStateException> STATE = IllegalStateException.class;
    private static final Path DOCUMENT = Path.of("../shared/DOC.md");
    private static String about = "";
    private static int passed;
    private static int failed;
    private static int sentences;
    /** The maker that was asked for last and what it told, as many calls in a row are tried on the same objects. */
    private static Supplier<PipelineRunner> lastMade;
    private static String lastTold;

    // ---- answers and refusals

    static void due(String what, Object got, Object want) {
        if (want.equals(got)) {
            passed++;
        } else {
            failed++;
            System.out.println(about + what + " answered " + got + ", due is " + want);
        }
    }

    /** The call throws nothing. */
    static void taken(String what, Supplier<PipelineRunner> made, Consumer<PipelineRunner> call) {
        Object got = "nothing thrown";
        try {
            call.accept(made.get());
        } catch (RuntimeException thrown) {
            got = thrown;
        }
        due(what, got, "nothing thrown");
    }

    /** The call throws just this exception, and the object tells afterwards what one tells that it was not made on. */
    static void refused(String what, Supplier<PipelineRunner> made, Class<?> due, Consumer<PipelineRunner> call) {
        Object got = "nothing thrown";
        try {
            call.accept(made.get());
        } catch (RuntimeException thrown) {
            got = isThrownByTheClass(thrown) ? thrown.getClass() : "thrown by the machine: " + thrown;
        }
        due(what, got, due);
        changesNothing(what, made, call);
    }

    static void changesNothing(String what, Supplier<PipelineRunner> made, Consumer<PipelineRunner> call) {
        if (made != lastMade) {
            lastMade = made;
            lastTold = Told.of(made);
        }
        due("all after " + what, Told.after(made, call), lastTold);
    }

    /** The library's lists throw IndexOutOfBoundsException too; the class must not lean on that. */
    private static boolean isThrownByTheClass(RuntimeException thrown) {
        StackTraceElement[] trace = thrown.getStackTrace();
        return trace.length > 0 && trace[0].getClassName().startsWith("PipelineRunner");
    }

    // ---- sentences of the document

    /** The document's text by the names of its sections, and the words of each that were quoted so far. */
    private static final Map<String, String> SECTIONS = new TreeMap<>();
    private static final Map<String, List<String>> QUOTED = new TreeMap<>();

    /** Runs the test of these words, which must stand in this section of the document. */
    static void sentence(String section, String words, Runnable test) {
        about = "";
        quote(section, words);
        about = section + ", '" + words + "': ";
        int before = passed + failed;
        try {
            test.run();
        } catch (RuntimeException thrown) {
            due("its test", thrown, "nothing thrown");
        }
        due("that it is tested", passed + failed > before, true);
        about = "";
        sentences++;
    }

    /** These words name nothing that could be tested by themselves. */
    static void noBound(String section, String words) {
        quote(section, words);
    }

    private static void quote(String section, String words) {
        due("that " + section + " says '" + words + "'", section(section).contains(words), true);
        QUOTED.computeIfAbsent(section, none -> new ArrayList<>()).add(words);
    }

    static String section(String name) {
        if (SECTIONS.isEmpty()) {
            readSections();
        }
        return SECTIONS.getOrDefault(name, "");
    }

    static Set<String> sectionNames() {
        section("");
        return SECTIONS.keySet();
    }

    private static void readSections() {
        try {
            for (String part : Files.readString(DOCUMENT).split("\n## ")) {
                String name = part.replaceAll("(?s)[:\n].*", "");
                SECTIONS.put(name, part);
            }
        } catch (IOException unreadable) {
            due("the document", unreadable, DOCUMENT);
        }
    }

    /** Of the lines of this section that match, no more is left that no test has quoted than their name and commas. */
    static void isQuotedWholly(String section, String lines) {
        String left = section(section);
        due("that the document has the section " + section, left.isEmpty(), false);
        List<String> quoted = new ArrayList<>(QUOTED.getOrDefault(section, List.of()));
        // The longest first, as a short quote may be a part of a long one.
        quoted.sort(Comparator.comparingInt(words -> -words.length()));
        for (String words : quoted) {
            left = left.replace(words, "");
        }
        for (String line : left.split("\n")) {
            if (line.matches(lines)) {
                due("what no test quotes of " + section, line.replaceAll("^\\w*[.,;: ()]*$", ""), "");
            }
        }
    }

    static void end() {
        System.out.println(passed + " checks passed, " + failed + " failed"
                + (sentences > 0 ? ", of " + sentences + " parts of sentences" : ""));
        System.exit(failed == 0 ? 0 : 1);
    }

    // ---- what objects tell, in short

    static String key(PipelineRunner x, int place) {
        return x.entryInput(place, 0) + " " + x.entryInput(place, 1) + " " + x.entryInput(place, 2);
    }

    /** The keys of all entries, the one whose latest use is the longest ago first. */
    static String keys(PipelineRunner x) {
        StringBuilder told = new StringBuilder();
        for (int i = 0; i < x.entries(); i++) {
            told.append(i == 0 ? "" : ", ").append(key(x, i));
        }
        return told.toString();
    }

    /** The runs and stages of the jobs in the queue, from the first on. */
    static String queueOf(PipelineRunner x) {
        StringBuilder told = new StringBuilder();
        for (int i = 0; i < x.queued(); i++) {
            told.append(i == 0 ? "" : ", ").append(x.queuedRun(i)).append('.').append(x.queuedStage(i));
        }
        return told.toString();
    }

    /** The states of the first jobs of a stage of a run. */
    static String jobStates(PipelineRunner x, int run, int stage, int count) {
        StringBuilder told = new StringBuilder();
        for (int i = 0; i < count; i++) {
            told.append(i == 0 ? "" : " ").append(x.jobState(run, stage, i));
        }
        return told.toString();
    }

    /** The runs of the four workers' jobs. */
    static String workerRuns(PipelineRunner x) {
        return x.workerRun(0) + " " + x.workerRun(1) + " " + x.workerRun(2) + " " + x.workerRun(3);
    }

    // ---- what objects are made and used with

    /** An object with stages of one row each, of as many jobs as told. */
    static PipelineRunner withStages(int... jobs) {
        PipelineRunner x = new PipelineRunner();
        for (int each : jobs) {
            x.addStage(1, each);
        }
        return x;
    }

    static PipelineRunner withMatrix(int rows, int columns) {
        PipelineRunner x = new PipelineRunner();
        x.addStage(rows, columns);
        return x;
    }

    static void takeAndFinish(PipelineRunner x, boolean isPassed) {
        x.take(0);
        x.finish(0, isPassed);
    }

    /** Pushes, takes the only job and passes it; the run is over then. */
    static int pushAndPass(PipelineRunner x, int first, int second, int third) {
        int run = x.push(0, first, second, third);
        takeAndFinish(x, true);
        return run;
    }
}
