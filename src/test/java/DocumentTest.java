import java.lang.reflect.Constructor;
import java.lang.reflect.Executable;
import java.lang.reflect.Field;
import java.lang.reflect.Method;
import java.lang.reflect.Modifier;
import java.nio.file.Files;
import java.nio.file.Path;
import java.util.ArrayList;
import java.util.List;
import java.util.Set;
import java.util.TreeSet;
import java.util.function.Consumer;
import java.util.function.Supplier;
import java.util.regex.Matcher;
import java.util.regex.Pattern;

/**
 * The document from its first line to its last, but for what TermsTest has of "Terms" and BoundsTest
 * of the promises: what the class is, its face, what each constant means, the order of the calls,
 * each promise's first line, and what is not promised. The three leave no line of the document.
 */
public final class DocumentTest extends Checks {
    private static final String ABOUT = "What it is";
    private static final String FACE = "The public face";
    private static final String TERMS = "Terms";
    private static final String REST = "Not promised";
    private static final Path SOURCE = Path.of("src/main/java/PipelineRunner.java");
    private static final int SEEDS = 400;
    private static final int WAITING = PipelineRunner.WAITING;
    private static final int QUEUED = PipelineRunner.QUEUED;
    private static final int RUNNING = PipelineRunner.RUNNING;
    private static final int PASSED = PipelineRunner.PASSED;
    private static final int FAILED = PipelineRunner.FAILED;
    private static final int CANCELLED = PipelineRunner.CANCELLED;
    private static final int SKIPPED = PipelineRunner.SKIPPED;
    private static final int GOING = PipelineRunner.GOING;
    private static final int CANCELLING = PipelineRunner.CANCELLING;
    private static final int GOOD = PipelineRunner.GOOD;
    private static final int BAD = PipelineRunner.BAD;
    private static final int NONE = PipelineRunner.NONE;

    public static void main(String[] args) throws Exception {
        sections();
        whatItIs();
        howLongAnObjectIsUsed();
        face();
        List<Drawn> drawn = drawn();
        constantsOfJobs(drawn);
        constantsOfRuns(drawn);
        orderOfTheCalls(Files.readString(SOURCE));
        callsOfStages();
        callsThatStartAndCancel();
        callsThatLookAtRuns(drawn);
        callsOfTheQueue();
        callsOfWorkers();
        callsOfCaches();
        notPromised();
        end();
    }

    // ---- the document's parts

    /** A section that is none of these would be read by no test. */
    private static void sections() {
        Set<String> known = new TreeSet<>(List.of("# PipelineRunner", ABOUT, FACE, TERMS, REST));
        for (int promise = 1; promise <= 29; promise++) {
            known.add("Promise " + promise);
        }
        due("the document's sections", sectionNames(), known);
        sentence("# PipelineRunner", "# PipelineRunner",
                () -> due("the name of the class, in no package", PipelineRunner.class.getName(), "PipelineRunner"));
        isQuotedWholly("# PipelineRunner", ".*");
    }

    private static void whatItIs() {
        sentence(ABOUT, "A runner of build pipelines: stages that need one another", () -> {
            PipelineRunner x = withStages(1, 1);
            x.need(1, 0);
            x.push(0, 0, 0, 0);
            due("the queue", queueOf(x), "0.0");
            takeAndFinish(x, true);
            due("the queue then", queueOf(x), "0.1");
        });
        sentence(ABOUT, "each with a matrix of jobs", () -> {
            PipelineRunner x = withMatrix(3, 2);
            x.addStage(4, 1);
            x.push(0, 0, 0, 0);
            due("the jobs of both", x.queued(), 10);
        });
        sentence(ABOUT, "and runs of all stages that pushes to branches start", () -> {
            PipelineRunner x = withStages(1, 1, 1);
            x.push(0, 0, 0, 0);
            x.push(3, 0, 0, 0);
            due("the queue", queueOf(x), "0.0, 0.1, 0.2, 1.0, 1.1, 1.2");
        });
        sentence(ABOUT, "workers take queued jobs and finish them", () -> {
            PipelineRunner x = pushed(withStages(2));
            due("take", x.take(3), 0);
            due("finish", x.finish(3, true), PASSED);
            due("the jobs", jobStates(x, 0, 0, 2), "3 1");
        });
        sentence(ABOUT, "failed jobs are tried again", () -> {
            PipelineRunner x = withStages(1);
            x.setStage(0, 1, 0);
            x.push(0, 0, 0, 0);
            takeAndFinish(x, false);
            due("the job taken again", x.take(0), 0);
            due("passed then", x.finish(0, true), PASSED);
        });
        sentence(ABOUT, "stages behind failed ones are skipped", () -> {
            PipelineRunner x = withStages(1, 1, 1);
            x.need(1, 0);
            x.need(2, 1);
            x.push(0, 0, 0, 0);
            takeAndFinish(x, false);
            due("both behind", x.jobState(0, 1, 0) + " " + x.jobState(0, 2, 0), "6 6");
        });
        sentence(ABOUT, "newer pushes cancel older runs", () -> {
            PipelineRunner x = pushed(withStages(1));
            x.push(0, 0, 0, 0);
            due("the states", x.state(0) + " " + x.state(1), "5 7");
        });
        sentence(ABOUT, "and caches are found again by keys or their prefixes.", () -> {
            PipelineRunner x = withStages(1);
            x.setStage(0, 0, 3);
            pushAndPass(x, 4, 5, 6);
            int same = pushAndPass(x, 4, 5, 6);
            due("by the key", x.restored(same, 0, 0), 3);
            int alike = pushAndPass(x, 4, 5, 7);
            due("by a prefix", x.restored(alike, 0, 0), 2);
        });
    }

    private static void howLongAnObjectIsUsed() {
        sentence(ABOUT, "An object is used for at most 512 calls after it has been made", () -> {
            PipelineRunner x = pushed(withStages(1));
            for (int i = 0; i < 254; i++) {
                x.take(i % 4);
                x.lose(i % 4);
            }
            due("the 511th call", x.take(3), 0);
            due("the 512th call", x.attempts(0, 0, 0), 255);
            PipelineRunner refusing = pushed(withStages(1));
            for (int i = 0; i < 509; i++) {
                due("a refused call", Told.answer(y -> y.cancel(1), refusing), "IndexOutOfBoundsException");
            }
            due("the 512th call after refused ones", refusing.cancel(0), 1);
        });
        noBound(ABOUT, "what later calls answer is free.");
        noBound(ABOUT, ABOUT);
        isQuotedWholly(ABOUT, ".*");
    }

    private static PipelineRunner pushed(PipelineRunner x) {
        x.push(0, 1, 2, 3);
        return x;
    }

    // ---- the face

    /** The class has each member that the document's lines name, word for word but for the arguments' names. */
    private static void face() {
        Set<String> members = members();
        int lines = 0;
        for (String line : section(FACE).split("\n")) {
            if (line.matches(" +public .*;")) {
                sentence(FACE, line.trim(), () -> hasMember(members, line.trim().replace(";", "")));
                lines++;
            }
        }
        due("lines of the face", lines, 41);
        sentence(FACE, "public final class PipelineRunner {",
                () -> due("the class", Modifier.toString(PipelineRunner.class.getModifiers()), "public final"));
        noBound(FACE, FACE);
        isQuotedWholly(FACE, "[^`}].*");
    }

    private static void hasMember(Set<String> members, String member) {
        String types = member.replaceAll("(int|boolean) \\w+(?=[,)])", "$1");
        due("that the class has " + types, members.contains(types), true);
    }

    private static Set<String> members() {
        Set<String> found = new TreeSet<>();
        for (Field field : PipelineRunner.class.getFields()) {
            found.add(Modifier.toString(field.getModifiers()) + " " + field.getType() + " " + field.getName() + " = "
                    + valueOf(field));
        }
        for (Constructor<?> constructor : PipelineRunner.class.getConstructors()) {
            found.add(member(constructor, constructor.getName()));
        }
        for (Method method : PipelineRunner.class.getMethods()) {
            found.add(member(method, method.getReturnType() + " " + method.getName()));
        }
        return found;
    }

    private static Object valueOf(Field field) {
        try {
            return field.get(null);
        } catch (IllegalAccessException hidden) {
            return hidden;
        }
    }

    private static String member(Executable member, String name) {
        String text = Modifier.toString(member.getModifiers()) + " " + name + "(" + names(member.getParameterTypes()) + ")";
        return member.getExceptionTypes().length == 0 ? text : text + " throws " + names(member.getExceptionTypes());
    }

    private static String names(Class<?>[] types) {
        List<String> found = new ArrayList<>();
        for (Class<?> type : types) {
            found.add(type.getSimpleName());
        }
        return String.join(", ", found);
    }

    // ---- the constants, as they are met in drawn calls

    private static List<Drawn> drawn() {
        List<Drawn> found = new ArrayList<>();
        for (int seed = 0; seed < SEEDS; seed++) {
            found.add(new Drawn(seed));
        }
        return found;
    }

    private interface StageCheck {
        /** Null if all is as due, what is not otherwise; "" does not count as met. */
        String fault(Drawn drawn, int run, int stage);
    }

    private static final String NOT_MET = "";

    /** Checks each stage of each run that was drawn; it must have been met often enough to tell something. */
    private static void inEachStage(List<Drawn> all, int least, StageCheck check) {
        int met = 0;
        for (Drawn drawn : all) {
            for (int run = 0; run < drawn.runs; run++) {
                for (int stage = 0; stage < drawn.stages; stage++) {
                    String fault = check.fault(drawn, run, stage);
                    met += fault == null || !fault.equals(NOT_MET) ? 1 : 0;
                    if (fault != null && !fault.equals(NOT_MET)) {
                        due("seed " + drawn.seed + ", run " + run + ", stage " + stage, fault, "all as due");
                    }
                }
            }
        }
        due("that it is met often enough: " + met, met >= least, true);
    }

    private static String tell(boolean isMet, boolean isDue, String fault) {
        return !isMet ? NOT_MET : isDue ? null : fault;
    }

    private static boolean isGoing(Drawn drawn, int run) {
        return drawn.states[run] == GOING;
    }

    private static boolean needsAreOver(Drawn drawn, int run, int stage) {
        boolean areOver = true;
        for (int other = 0; other < drawn.stages; other++) {
            areOver &= !drawn.needs[stage][other] || drawn.isOver(run, other);
        }
        return areOver;
    }

    private static boolean needsAreGood(Drawn drawn, int run, int stage) {
        boolean areGood = true;
        for (int other = 0; other < drawn.stages; other++) {
            areGood &= !drawn.needs[stage][other] || drawn.isGood(run, other);
        }
        return areGood;
    }

    private static void constantsOfJobs(List<Drawn> all) {
        sentence(TERMS, "The constants: `NONE = -1`: None.", () -> {
            due("NONE", NONE, -1);
            PipelineRunner x = withStages(1);
            due("no job in the queue", x.take(0), NONE);
            due("no run of a worker", x.workerRun(0), NONE);
            due("no stage of a worker", x.workerStage(0), NONE);
            x.setStage(0, 0, 1);
            due("nothing restored", pushed(x).restored(0, 0, 0), NONE);
            takeAndFinish(x, true);
            due("no second input", x.entryInput(0, 1), NONE);
        });
        sentence(TERMS, "`WAITING = 0`: State of a job: its stage needs others that are not over.", () -> {
            due("WAITING", WAITING, 0);
            inEachStage(all, 100, (x, run, stage) -> tell(x.count(run, stage, WAITING) > 0,
                    !needsAreOver(x, run, stage) && isGoing(x, run), "WAITING though its needs are over"));
            inEachStage(all, 100, (x, run, stage) -> tell(isGoing(x, run) && !needsAreOver(x, run, stage),
                    x.count(run, stage, WAITING) == x.columns[stage], "not all WAITING though its needs are not over"));
        });
        sentence(TERMS, "`QUEUED = 1`: State of a job: it is in the queue.", () -> {
            due("QUEUED", QUEUED, 1);
            for (Drawn x : all) {
                int[] inQueue = new int[x.runs * x.stages];
                int length = x.ask(PipelineRunner::queued);
                for (int i = 0; i < length; i++) {
                    int place = i;
                    inQueue[x.ask(y -> y.queuedRun(place)) * x.stages + x.ask(y -> y.queuedStage(place))]++;
                }
                due("seed " + x.seed + ", those in the queue", told(inQueue), told(counts(x, QUEUED)));
            }
        });
        sentence(TERMS, "`RUNNING = 2`: State of a job: a worker has it.", () -> {
            due("RUNNING", RUNNING, 2);
            for (Drawn x : all) {
                int[] had = new int[x.runs * x.stages];
                for (int i = 0; i < 4; i++) {
                    int worker = i;
                    int run = x.ask(y -> y.workerRun(worker));
                    int stage = x.ask(y -> y.workerStage(worker));
                    due("both or none", run == NONE, stage == NONE);
                    if (run != NONE && stage != NONE) {
                        had[run * x.stages + stage]++;
                    }
                }
                due("seed " + x.seed + ", those of workers", told(had), told(counts(x, RUNNING)));
            }
        });
        sentence(TERMS, "`PASSED = 3`: State of a job.", () -> {
            due("PASSED", PASSED, 3);
            inEachStage(all, 100, (x, run, stage) -> tell(x.count(run, stage, PASSED) > 0,
                    needsAreGood(x, run, stage) && areTaken(x, run, stage, PASSED, 1), "PASSED though not taken"));
        });
        sentence(TERMS, "`FAILED = 4`: State of a job.", () -> {
            due("FAILED", FAILED, 4);
            inEachStage(all, 100, (x, run, stage) -> tell(x.count(run, stage, FAILED) > 0,
                    needsAreGood(x, run, stage) && areTaken(x, run, stage, FAILED, 1), "FAILED though not taken"));
            inEachStage(all, 100, (x, run, stage) -> tell(
                    x.count(run, stage, FAILED) > 0 && !x.wasCancelled(run) && !x.hasStopped(run, stage),
                    areTaken(x, run, stage, FAILED, 1 + x.retries[stage]), "FAILED though not tried again"));
        });
        sentence(TERMS, "`CANCELLED = 5`: State of a job, or of a run.", () -> {
            due("CANCELLED", CANCELLED, 5);
            inEachStage(all, 100, (x, run, stage) -> tell(x.count(run, stage, CANCELLED) > 0,
                    x.wasCancelled(run) || x.hasStopped(run, stage), "a job CANCELLED for no cause"));
            inEachStage(all, 100, (x, run, stage) -> tell(x.states[run] == CANCELLED,
                    x.wasCancelled(run) && x.isOver(run, stage), "a run CANCELLED for no cause"));
            inEachStage(all, 20, (x, run, stage) -> tell(x.hasStopped(run, stage),
                    x.count(run, stage, QUEUED) == 0, "QUEUED in a stage that has stopped"));
        });
        sentence(TERMS, "`SKIPPED = 6`: State of a job: a stage that its stage needs is not good.", () -> {
            due("SKIPPED", SKIPPED, 6);
            inEachStage(all, 100, (x, run, stage) -> tell(x.count(run, stage, SKIPPED) > 0,
                    needsAreOver(x, run, stage) && !needsAreGood(x, run, stage), "SKIPPED though its needs are good"));
            inEachStage(all, 100, (x, run, stage) -> tell(
                    !x.wasCancelled(run) && needsAreOver(x, run, stage) && !needsAreGood(x, run, stage),
                    x.count(run, stage, SKIPPED) == x.columns[stage], "not all SKIPPED though a need is not good"));
        });
    }

    private static boolean areTaken(Drawn x, int run, int stage, int state, int least) {
        boolean areTaken = true;
        for (int job = 0; job < x.columns[stage]; job++) {
            areTaken &= x.jobState(run, stage, job) != state || x.attempts(run, stage, job) >= least;
        }
        return areTaken;
    }

    /** How many jobs of each stage of each run are in this state. */
    private static int[] counts(Drawn x, int state) {
        int[] counts = new int[x.runs * x.stages];
        for (int i = 0; i < counts.length; i++) {
            counts[i] = x.count(i / x.stages, i % x.stages, state);
        }
        return counts;
    }

    private static String told(int[] numbers) {
        StringBuilder told = new StringBuilder();
        for (int each : numbers) {
            told.append(each).append(' ');
        }
        return told.toString();
    }

    private interface RunCheck {
        boolean isDue(Drawn drawn, int run);
    }

    /** Each run that was drawn is in this state just if the words for it hold. */
    private static void justIf(List<Drawn> all, int state, int least, RunCheck words) {
        int met = 0;
        for (Drawn x : all) {
            for (int run = 0; run < x.runs; run++) {
                boolean isDue = words.isDue(x, run);
                met += isDue ? 1 : 0;
                if ((x.states[run] == state) != isDue) {
                    due("seed " + x.seed + ", run " + run + " of the state " + x.states[run], !isDue, isDue);
                }
            }
        }
        due("that it is met often enough: " + met, met >= least, true);
    }

    private static boolean areAllOver(Drawn x, int run) {
        boolean areOver = true;
        for (int stage = 0; stage < x.stages; stage++) {
            areOver &= x.isOver(run, stage);
        }
        return areOver;
    }

    private static boolean areAllGood(Drawn x, int run) {
        boolean areGood = true;
        for (int stage = 0; stage < x.stages; stage++) {
            areGood &= x.isGoodByItsJobs(run, stage);
        }
        return areGood;
    }

    private static void constantsOfRuns(List<Drawn> all) {
        sentence(TERMS, "`GOING = 7`: State of a run: it goes on.", () -> {
            due("GOING", GOING, 7);
            justIf(all, GOING, 100, (x, run) -> !x.wasCancelled(run) && !areAllOver(x, run));
        });
        sentence(TERMS, "`CANCELLING = 8`: State of a run: it was cancelled, and some of its jobs are RUNNING.", () -> {
            due("CANCELLING", CANCELLING, 8);
            justIf(all, CANCELLING, 20, (x, run) -> x.wasCancelled(run) && x.countOfRun(run, RUNNING) > 0);
        });
        sentence(TERMS, "`GOOD = 9`: State of a run: all stages are good.", () -> {
            due("GOOD", GOOD, 9);
            justIf(all, GOOD, 50, (x, run) -> !x.wasCancelled(run) && areAllGood(x, run));
        });
        sentence(TERMS, "`BAD = 10`: State of a run: all stages are over, some are not good.", () -> {
            due("BAD", BAD, 10);
            justIf(all, BAD, 50, (x, run) -> !x.wasCancelled(run) && areAllOver(x, run) && !areAllGood(x, run));
            justIf(all, CANCELLED, 50, (x, run) -> x.wasCancelled(run) && x.countOfRun(run, RUNNING) == 0);
        });
    }

    // ---- the order of the calls

    private static void orderOfTheCalls(String source) {
        String[] parts = {"stages", "runs", "queue and workers", "caches"};
        String[] calls = {"addStage need exclude setStage setMarks stages jobs needs",
            "push cancel runs state jobState attempts restored isGood artifacts",
            "queued queuedRun queuedStage take finish lose workerRun workerStage", "entries entryStage entryInput"};
        for (int i = 0; i < parts.length; i++) {
            String part = parts[i];
            String names = calls[i];
            String words = "Ahead of the calls `" + names.replace(" ", "`, `") + "` the interface says: ---- " + part + ".";
            sentence(TERMS, words, () -> due("the calls behind that line", publicNamesBehind(source, part), names));
        }
        isQuotedWholly(TERMS, "(The constants|`|Ahead of the calls).*");
    }

    /** The public methods from this comment up to the next one of its kind. */
    private static String publicNamesBehind(String source, String part) {
        String[] cut = source.split("// ---- ");
        List<String> names = new ArrayList<>();
        for (String each : cut) {
            if (each.startsWith(part + "\n")) {
                Matcher found = Pattern.compile("public \\w+ (\\w+)\\(").matcher(each);
                while (found.find()) {
                    names.add(found.group(1));
                }
            }
        }
        return String.join(" ", names);
    }

    // ---- the promises' first lines

    /** A promise's name and its first line: the call as the class has it, and what it does. */
    private static void promise(int number, String name, String call, String words, Runnable test) {
        String section = "Promise " + number;
        noBound(section, section + ": " + name);
        sentence(section, "`" + call + "`: " + words, () -> {
            hasMember(members(), "public " + call);
            test.run();
        });
        isQuotedWholly(section, "(Promise|`).*");
    }

    /** Runs of all states, jobs of all states, entries of two stages, and two busy workers. */
    private static PipelineRunner ofAllKinds() {
        PipelineRunner x = withStages(2, 1, 3);
        x.need(1, 0);
        x.setStage(0, 1, 2);
        x.setStage(2, 0, 1);
        x.setMarks(0, false, false, false);
        x.setMarks(2, true, true, true);
        x.push(0, 1, 2, 3);
        takeAndFinishAll(x, true);
        x.push(0, 1, 3, 3);
        takeAndFinishAll(x, false);
        x.push(1, 2, 2, 2);
        x.take(3);
        x.cancel(2);
        x.push(2, 3, 3, 3);
        x.cancel(3);
        x.push(2, 4, 4, 4);
        takeAndFinish(x, true);
        x.take(1);
        return x;
    }

    private static void takeAndFinishAll(PipelineRunner x, boolean isPassed) {
        for (int i = 0; i < 128 && x.take(0) != NONE; i++) {
            x.finish(0, isPassed);
        }
    }

    /** All that an object of all kinds tells, and tells when it is used on, is as if the call was not made. */
    private static void looksOnly(Consumer<PipelineRunner> call) {
        changesNothing("a look", ALL_KINDS, call);
    }

    private static final Supplier<PipelineRunner> ALL_KINDS = DocumentTest::ofAllKinds;

    private static void callsOfStages() {
        promise(1, "A new object", "PipelineRunner()",
                "No stages, no runs, no cache entries; all workers are free.", () -> {
                    PipelineRunner x = new PipelineRunner();
                    due("all", x.stages() + " " + x.runs() + " " + x.entries() + " " + x.queued(), "0 0 0 0");
                    due("the workers", workerRuns(x), "-1 -1 -1 -1");
                });
        promise(2, "addStage",
                "int addStage(int rows, int columns) throws IllegalArgumentException, IllegalStateException",
                "Adds a stage.", () -> {
                    PipelineRunner x = withMatrix(2, 2);
                    x.exclude(0, 1, 1);
                    x.addStage(3, 2);
                    due("the stages", x.stages(), 2);
                    due("their jobs", x.jobs(0) + " " + x.jobs(1), "3 6");
                    due("the needs", x.needs(0, 1) + " " + x.needs(1, 0), "false false");
                    due("the runs", x.runs(), 0);
                });
        promise(3, "need", "int need(int stage, int other) throws IndexOutOfBoundsException, IllegalStateException",
                "Lets a stage need another one.", () -> {
                    PipelineRunner x = withStages(2, 2, 2);
                    x.need(0, 2);
                    for (int i = 0; i < 9; i++) {
                        due(i / 3 + " needs " + i % 3, x.needs(i / 3, i % 3), i == 2);
                    }
                    due("their jobs", x.jobs(0) + " " + x.jobs(1) + " " + x.jobs(2), "2 2 2");
                    due("the queue of a run", queueOf(pushed(x)), "0.1, 0.1, 0.2, 0.2");
                });
        promise(4, "exclude",
                "int exclude(int stage, int row, int column) throws IndexOutOfBoundsException, IllegalStateException",
                "Excludes a job of a stage.", () -> {
                    PipelineRunner x = withStages(3, 3);
                    x.exclude(1, 0, 1);
                    due("their jobs", x.jobs(0) + " " + x.jobs(1), "3 2");
                    due("the queue of a run", queueOf(pushed(x)), "0.0, 0.0, 0.0, 0.1, 0.1");
                    due("the excluded one", Told.answer(y -> y.jobState(0, 1, 1), x), "IndexOutOfBoundsException");
                });
        promise(5, "setStage",
                "int setStage(int stage, int retries, int length)"
                        + " throws IndexOutOfBoundsException, IllegalArgumentException, IllegalStateException",
                "Changes the retries and the length of the cache key of a stage.", DocumentTest::setStageOfOne);
        promise(6, "setMarks",
                "void setMarks(int stage, boolean stopsFast, boolean mayFail, boolean isInterruptible)"
                        + " throws IndexOutOfBoundsException, IllegalStateException",
                "Changes the marks of a stage.", DocumentTest::setMarksOfOne);
        promise(7, "stages", "int stages()", "Returns the number of stages.", () -> {
            due("three", ofAllKinds().stages(), 3);
            looksOnly(x -> x.stages());
        });
        promise(8, "jobs", "int jobs(int stage) throws IndexOutOfBoundsException", "Returns how many jobs a stage has.",
                () -> {
                    PipelineRunner x = ofAllKinds();
                    due("of each of three", x.jobs(0) + " " + x.jobs(1) + " " + x.jobs(2), "2 1 3");
                    looksOnly(y -> y.jobs(2));
                });
        promise(9, "needs", "boolean needs(int stage, int other) throws IndexOutOfBoundsException",
                "Tells whether a stage needs another one, directly or over others.", () -> {
                    PipelineRunner x = withStages(1, 1, 1, 1);
                    x.need(0, 2);
                    x.need(2, 1);
                    due("directly", x.needs(0, 2) + " " + x.needs(2, 1), "true true");
                    due("over another", x.needs(0, 1), true);
                    due("not at all", x.needs(1, 0) + " " + x.needs(0, 3) + " " + x.needs(3, 0), "false false false");
                    looksOnly(y -> y.needs(1, 0));
                });
    }

    /** Of two stages alike, one is given other retries and another length of its key. */
    private static void setStageOfOne() {
        PipelineRunner x = withStages(1, 1);
        x.setMarks(1, false, true, false);
        x.setStage(0, 0, 1);
        x.setStage(1, 2, 2);
        pushed(x);
        due("the first fails at once", x.take(0) + " " + x.finish(0, false), "0 4");
        for (int fails = 0; fails < 3; fails++) {
            due("the other's retries", x.take(0) + " " + x.finish(0, false), fails < 2 ? "0 1" : "0 4");
        }
        due("its marks are kept", x.isGood(0, 0) + " " + x.isGood(0, 1), "false true");
        pushed(x);
        takeAndFinishAll(x, true);
        due("their keys", keys(x), "1 -1 -1, 1 2 -1");
        x.setStage(0, 2, 1);
        due("other retries keep the entries", keys(x), "1 -1 -1, 1 2 -1");
        x.setStage(1, 2, 0);
        due("another length drops its own entries", keys(x), "1 -1 -1");
        pushed(x);
        due("the first's retries then", x.take(0) + " " + x.finish(0, false), "0 1");
    }

    /** Of three stages alike, one is given all three marks. */
    private static void setMarksOfOne() {
        Supplier<PipelineRunner> made = () -> {
            PipelineRunner x = withStages(2, 2, 2);
            x.setStage(1, 1, 2);
            x.setMarks(1, true, true, false);
            return pushed(x);
        };
        PipelineRunner failing = made.get();
        due("the stages behind no other", failing.queued(), 6);
        takeAndFinishAll(failing, false);
        due("stops fast, after its retries", jobStates(failing, 0, 0, 2) + ", " + jobStates(failing, 0, 1, 2) + ", "
                + jobStates(failing, 0, 2, 2), "4 4, 4 5, 4 4");
        due("its retries are kept", failing.attempts(0, 1, 0), 2);
        due("its key is kept", failing.restored(0, 1, 0), 0);
        due("may fail", failing.isGood(0, 0) + " " + failing.isGood(0, 1) + " " + failing.isGood(0, 2), "false true false");
        PipelineRunner cancelled = made.get();
        takeAndFinish(cancelled, true);
        for (int worker = 0; worker < 4; worker++) {
            cancelled.take(worker);
        }
        due("can be interrupted", cancelled.cancel(0) + ": " + workerRuns(cancelled), "3: -1 0 0 -1");
    }

    private static void callsThatStartAndCancel() {
        promise(10, "push",
                "int push(int branch, int first, int second, int third)"
                        + " throws IndexOutOfBoundsException, IllegalArgumentException, IllegalStateException",
                "Pushes to a branch.", () -> {
                    PipelineRunner x = withStages(1, 2);
                    x.setStage(1, 0, 3);
                    x.push(2, 7, 8, 9);
                    x.push(1, 4, 5, 6);
                    due("both go on", x.runs() + ": " + x.state(0) + " " + x.state(1), "2: 7 7");
                    due("the queue", queueOf(x), "0.0, 0.1, 0.1, 1.0, 1.1, 1.1");
                    x.push(2, 1, 2, 3);
                    due("a branch again", x.runs() + ": " + x.state(0) + " " + x.state(1) + " " + x.state(2), "3: 5 7 7");
                    due("the queue then", queueOf(x), "1.0, 1.1, 1.1, 2.0, 2.1, 2.1");
                    takeAndFinishAll(x, true);
                    due("the keys of their inputs", keys(x), "4 5 6, 1 2 3");
                });
        promise(11, "cancel", "int cancel(int run) throws IndexOutOfBoundsException, IllegalStateException",
                "Cancels a run.", () -> {
                    PipelineRunner x = withStages(1, 1);
                    x.push(0, 0, 0, 0);
                    x.push(1, 0, 0, 0);
                    x.push(2, 0, 0, 0);
                    x.take(0);
                    x.cancel(1);
                    due("one of three", x.state(0) + " " + x.state(1) + " " + x.state(2), "7 5 7");
                    due("the queue", queueOf(x), "0.1, 2.0, 2.1");
                    due("a worker of another run", workerRuns(x), "0 -1 -1 -1");
                    due("its branch is free", x.push(1, 0, 0, 0) + " " + x.state(3), "3 7");
                });
        promise(12, "runs", "int runs()", "Returns the number of runs.", () -> {
            due("five", ofAllKinds().runs(), 5);
            looksOnly(x -> x.runs());
        });
        promise(13, "state", "int state(int run) throws IndexOutOfBoundsException", "Returns the state of a run.", () -> {
            PipelineRunner x = ofAllKinds();
            int[] states = {GOOD, BAD, CANCELLING, CANCELLED, GOING};
            for (int i = 0; i < 5; i++) {
                int run = i;
                due("the run " + run, x.state(run), states[run]);
                looksOnly(y -> y.state(run));
            }
        });
    }

    private static void callsThatLookAtRuns(List<Drawn> all) {
        promise(14, "jobState", "int jobState(int run, int stage, int job) throws IndexOutOfBoundsException",
                "Returns the state of a job of a run.", () -> {
                    PipelineRunner x = ofAllKinds();
                    String[] want = {"3 3, 3, 3 3 3", "4 4, 6, 4 5 5", "2 5, 5, 5 5 5", "5 5, 5, 5 5 5", "3 2, 0, 1 1 1"};
                    for (int run = 0; run < 5; run++) {
                        due("the run " + run, jobStates(x, run, 0, 2) + ", " + jobStates(x, run, 1, 1) + ", "
                                + jobStates(x, run, 2, 3), want[run]);
                    }
                    looksOnly(y -> y.jobState(4, 0, 1));
                });
        promise(15, "attempts", "int attempts(int run, int stage, int job) throws IndexOutOfBoundsException",
                "Returns how often a job was taken by a worker.", () -> {
                    PipelineRunner x = ofAllKinds();
                    due("passed at once", x.attempts(0, 0, 1), 1);
                    due("tried again", x.attempts(1, 0, 0) + " " + x.attempts(1, 0, 1), "2 2");
                    due("never taken", x.attempts(1, 1, 0) + " " + x.attempts(2, 0, 1) + " " + x.attempts(4, 2, 2), "0 0 0");
                    due("RUNNING", x.attempts(2, 0, 0) + " " + x.attempts(4, 0, 1), "1 1");
                    looksOnly(y -> y.attempts(4, 0, 1));
                    inEachStage(all, 100, (y, run, stage) -> tell(isFree(y, run, stage),
                            taken(y, run, stage) == 0, "attempts of jobs that no worker ever had"));
                });
        promise(16, "restored", "int restored(int run, int stage, int job) throws IndexOutOfBoundsException",
                "Returns how many inputs a job has restored from a cache entry"
                        + " when it was taken by a worker the latest time.", () -> {
                    PipelineRunner x = ofAllKinds();
                    due("no entry yet", x.restored(0, 0, 0), 0);
                    due("the entry of the job before", x.restored(0, 0, 1), 2);
                    due("one in common", x.restored(1, 0, 0) + " " + x.restored(1, 2, 0), "1 1");
                    due("none in common", x.restored(2, 0, 0), 0);
                    due("no key", x.restored(0, 1, 0), NONE);
                    due("not taken", x.restored(4, 2, 0), NONE);
                    looksOnly(y -> y.restored(0, 0, 1));
                    inEachStage(all, 100, (y, run, stage) -> tell(true, restoredAsTaken(y, run, stage),
                            "restored though not taken or without a key, or not in its range"));
                });
        promise(17, "isGood", "boolean isGood(int run, int stage) throws IndexOutOfBoundsException",
                "Tells whether a stage of a run is good.", () -> {
                    PipelineRunner x = ofAllKinds();
                    due("PASSED", x.isGood(0, 0) + " " + x.isGood(0, 1) + " " + x.isGood(0, 2), "true true true");
                    due("FAILED, SKIPPED, and one that may fail",
                            x.isGood(1, 0) + " " + x.isGood(1, 1) + " " + x.isGood(1, 2), "false false true");
                    due("CANCELLED with its run", x.isGood(3, 0) + " " + x.isGood(3, 2), "false false");
                    due("not over", x.isGood(4, 0) + " " + x.isGood(4, 2), "false false");
                    looksOnly(y -> y.isGood(4, 2));
                    inEachStage(all, 100, (y, run, stage) -> tell(!y.wasCancelled(run),
                            y.isGood(run, stage) == y.isGoodByItsJobs(run, stage), "good or not against its jobs"));
                });
        promise(18, "artifacts", "int artifacts(int run, int stage) throws IndexOutOfBoundsException",
                "Returns how many artifacts the jobs of a stage get in a run:"
                        + " one of each job that is PASSED of the stages that it needs directly.", () -> {
                    PipelineRunner x = ofAllKinds();
                    due("of all runs", x.artifacts(0, 1) + " " + x.artifacts(1, 1) + " " + x.artifacts(2, 1) + " "
                            + x.artifacts(3, 1) + " " + x.artifacts(4, 1), "2 0 0 0 1");
                    due("without needs", x.artifacts(0, 0) + " " + x.artifacts(0, 2), "0 0");
                    looksOnly(y -> y.artifacts(4, 1));
                    inEachStage(all, 100, (y, run, stage) -> tell(true,
                            y.artifacts(run, stage) == passedNeeds(y, run, stage), "artifacts against its needs' jobs"));
                });
    }

    /** Whether no worker can ever have had a job of this stage: its needs are not over, or it was SKIPPED. */
    private static boolean isFree(Drawn x, int run, int stage) {
        return x.count(run, stage, WAITING) + x.count(run, stage, SKIPPED) == x.columns[stage];
    }

    private static int taken(Drawn x, int run, int stage) {
        int taken = 0;
        for (int job = 0; job < x.columns[stage]; job++) {
            taken += x.attempts(run, stage, job);
        }
        return taken;
    }

    private static boolean restoredAsTaken(Drawn x, int run, int stage) {
        boolean isDue = true;
        for (int job = 0; job < x.columns[stage]; job++) {
            int restored = x.restored(run, stage, job);
            boolean isNone = x.attempts(run, stage, job) == 0 || x.lengths[stage] == 0;
            isDue &= isNone ? restored == NONE : restored >= 0 && restored <= x.lengths[stage];
        }
        return isDue;
    }

    private static int passedNeeds(Drawn x, int run, int stage) {
        int passed = 0;
        for (int other = 0; other < x.stages; other++) {
            passed += x.needs[stage][other] ? x.count(run, other, PASSED) : 0;
        }
        return passed;
    }

    private static void callsOfTheQueue() {
        promise(19, "queued", "int queued()", "Returns the length of the queue.", () -> {
            due("three", ofAllKinds().queued(), 3);
            looksOnly(x -> x.queued());
        });
        promise(20, "queuedRun", "int queuedRun(int place) throws IndexOutOfBoundsException",
                "Returns the run of a job in the queue.", () -> {
                    PipelineRunner x = withStages(1, 1);
                    x.push(0, 0, 0, 0);
                    x.push(1, 0, 0, 0);
                    due("by place", x.queuedRun(0) + " " + x.queuedRun(1) + " " + x.queuedRun(2) + " " + x.queuedRun(3),
                            "0 0 1 1");
                    looksOnly(y -> y.queuedRun(1));
                });
        promise(21, "queuedStage", "int queuedStage(int place) throws IndexOutOfBoundsException",
                "Returns the stage of a job in the queue.", () -> {
                    PipelineRunner x = withStages(1, 2);
                    x.push(0, 0, 0, 0);
                    x.push(1, 0, 0, 0);
                    due("by place", x.queuedStage(0) + " " + x.queuedStage(1) + " " + x.queuedStage(2) + " "
                            + x.queuedStage(3) + " " + x.queuedStage(4), "0 1 1 0 1");
                    looksOnly(y -> y.queuedStage(1));
                });
        promise(22, "take", "int take(int worker) throws IndexOutOfBoundsException, IllegalStateException",
                "Lets a worker take the first job of the queue.", () -> {
                    PipelineRunner x = withStages(1, 2);
                    x.push(0, 0, 0, 0);
                    x.push(1, 0, 0, 0);
                    x.take(2);
                    due("the queue", queueOf(x), "0.1, 0.1, 1.0, 1.1, 1.1");
                    due("the worker", workerRuns(x) + ", " + x.workerStage(2), "-1 -1 0 -1, 0");
                    due("the job", x.jobState(0, 0, 0) + " " + x.attempts(0, 0, 0), "2 1");
                    due("the others", jobStates(x, 0, 1, 2) + " " + jobStates(x, 1, 0, 1), "1 1 1");
                    x.take(0);
                    due("the next", workerRuns(x) + ", " + x.workerStage(0), "0 -1 0 -1, 1");
                });
    }

    private static void callsOfWorkers() {
        promise(23, "finish",
                "int finish(int worker, boolean isPassed) throws IndexOutOfBoundsException, IllegalStateException",
                "Lets a worker finish its job.", () -> {
                    PipelineRunner x = pushed(withStages(4));
                    for (int worker = 0; worker < 4; worker++) {
                        x.take(worker);
                    }
                    x.finish(2, true);
                    x.finish(1, false);
                    due("their jobs alone", jobStates(x, 0, 0, 4), "2 4 3 2");
                    due("they alone are free", workerRuns(x), "0 -1 -1 0");
                    due("how often they were taken", x.attempts(0, 0, 1) + " " + x.attempts(0, 0, 2), "1 1");
                });
        promise(24, "lose", "int lose(int worker) throws IndexOutOfBoundsException, IllegalStateException",
                "Lets a worker lose its job.", () -> {
                    PipelineRunner x = pushed(withStages(4));
                    for (int worker = 0; worker < 4; worker++) {
                        x.take(worker);
                    }
                    x.lose(2);
                    due("its job alone", jobStates(x, 0, 0, 4), "2 2 1 2");
                    due("it alone is free", workerRuns(x), "0 0 -1 0");
                    due("another worker takes it", x.queued() + " " + x.take(2) + " " + x.attempts(0, 0, 2), "1 2 2");
                });
        promise(25, "workerRun", "int workerRun(int worker) throws IndexOutOfBoundsException",
                "Returns the run of the job that a worker has.", () -> {
                    due("of each", workerRuns(ofAllKinds()), "-1 4 -1 2");
                    looksOnly(y -> y.workerRun(1));
                    looksOnly(y -> y.workerRun(0));
                });
        promise(26, "workerStage", "int workerStage(int worker) throws IndexOutOfBoundsException",
                "Returns the stage of the job that a worker has.", () -> {
                    PipelineRunner x = pushed(withStages(1, 1, 1));
                    x.take(3);
                    x.take(0);
                    x.take(2);
                    due("of each", x.workerStage(0) + " " + x.workerStage(1) + " " + x.workerStage(2) + " "
                            + x.workerStage(3), "1 -1 2 0");
                    looksOnly(y -> y.workerStage(3));
                    looksOnly(y -> y.workerStage(2));
                });
    }

    private static void callsOfCaches() {
        promise(27, "entries", "int entries()", "Returns how many cache entries there are.", () -> {
            due("three", ofAllKinds().entries(), 3);
            looksOnly(x -> x.entries());
        });
        promise(28, "entryStage", "int entryStage(int place) throws IndexOutOfBoundsException",
                "Returns the stage of a cache entry.", () -> {
                    PipelineRunner x = ofAllKinds();
                    due("by place", x.entryStage(0) + " " + x.entryStage(1) + " " + x.entryStage(2), "2 0 0");
                    looksOnly(y -> y.entryStage(0));
                });
        promise(29, "entryInput", "int entryInput(int place, int input) throws IndexOutOfBoundsException",
                "Returns an input of the key of a cache entry.", () -> {
                    due("by place", keys(ofAllKinds()), "1 -1 -1, 1 2 -1, 4 4 -1");
                    looksOnly(y -> y.entryInput(0, 1));
                });
    }

    // ---- what is not promised

    private static void notPromised() {
        noBound(REST, REST);
        noBound(REST, "How the state is held inside the object is free, as are the speed of each call,"
                + " the text of toString and the behaviour of equals and hashCode.");
        noBound(REST, "Use of one object from several threads at once is not promised to be safe.");
        sentence(REST, "Nothing is promised beyond the answers and state changes described above", () -> {
            due("two objects made alike", Told.of(DocumentTest::ofAllKinds), Told.of(DocumentTest::ofAllKinds));
            looksOnly(x -> lookAtAll(x));
            inAnyOrder();
        });
        noBound(REST, "and nothing about an object after its 512th call.");
        isQuotedWholly(REST, ".*");
    }

    /** Calls that write stages change nothing else: they leave the same in whatever order they are made. */
    private static void inAnyOrder() {
        List<Consumer<PipelineRunner>> writes = List.of(x -> x.need(1, 0), x -> x.exclude(1, 0, 1),
                x -> x.setStage(1, 1, 2), x -> x.setMarks(1, true, true, false), x -> x.addStage(2, 2));
        String first = null;
        for (int order = 0; order < 120; order++) {
            List<Consumer<PipelineRunner>> ordered = ordered(writes, order);
            String told = Told.of(() -> {
                PipelineRunner x = withEntries();
                for (Consumer<PipelineRunner> write : ordered) {
                    write.accept(x);
                }
                return x;
            });
            first = first == null ? told : first;
            due("the order " + order, told, first);
        }
    }

    /** Three stages written in all ways but their second's, and entries of two of them. */
    private static PipelineRunner withEntries() {
        PipelineRunner x = withStages(2, 3, 2);
        x.setStage(0, 2, 1);
        x.setStage(2, 0, 3);
        x.setMarks(2, true, false, false);
        x.exclude(0, 0, 0);
        x.need(2, 0);
        x.push(0, 1, 2, 3);
        takeAndFinishAll(x, true);
        x.push(0, 1, 2, 4);
        takeAndFinishAll(x, true);
        return x;
    }

    /** One of all the orders of these writes, by its number. */
    private static List<Consumer<PipelineRunner>> ordered(List<Consumer<PipelineRunner>> writes, int order) {
        List<Consumer<PipelineRunner>> found = new ArrayList<>();
        int left = order;
        for (int i = 0; i < writes.size(); i++) {
            found.add(left % (i + 1), writes.get(i));
            left /= i + 1;
        }
        return found;
    }

    /** One call of each kind that only looks. */
    private static void lookAtAll(PipelineRunner x) {
        x.stages();
        x.jobs(1);
        x.needs(1, 0);
        x.runs();
        x.state(2);
        x.jobState(2, 0, 0);
        x.attempts(2, 0, 0);
        x.restored(2, 0, 0);
        x.isGood(2, 0);
        x.artifacts(2, 1);
        x.queued();
        x.queuedRun(0);
        x.queuedStage(2);
        x.workerRun(3);
        x.workerStage(3);
        x.entries();
        x.entryStage(2);
        x.entryInput(0, 2);
    }
}
