import java.util.function.Consumer;
import java.util.function.Supplier;

/**
 * The bounds that the promises' own lines name, each with a test of its own: the last value that is
 * allowed and the first that is not, the farthest ints, what is empty, what is full, and each
 * refused call, with the exception that comes first and that nothing has changed after it.
 */
public final class BoundsTest extends Checks {
    private static final int LOWEST = Integer.MIN_VALUE;
    private static final int HIGHEST = Integer.MAX_VALUE;
    private static final String NO_STAGE = "Throws `IndexOutOfBoundsException` if there is no such stage";
    private static final String GOES_ON = "Throws `IllegalStateException` if a run goes on";
    private static final String A_STAGE = "- `stage`: a stage";
    private static final String STAGE_THEN = "- `stage`: a stage that there was when it was started";
    private static final String JOB_THEN = "- `job`: a job of it that was not excluded then";
    private static final String NO_JOB =
            "Throws `IndexOutOfBoundsException` if there is no such run, or it has no such stage or job";
    private static final String WORKER = "- `worker`: 0 to 3";
    private static final String NO_WORKER = "Throws `IndexOutOfBoundsException` if there is no such worker";
    private static final String NO_PLACE = "Throws `IndexOutOfBoundsException` if there is no such place";

    public static void main(String[] args) {
        newObject();
        addStage();
        need();
        exclude();
        setStage();
        setMarks();
        stages();
        jobs();
        needs();
        push();
        cancel();
        runs();
        state();
        jobState();
        attempts();
        restored();
        isGood();
        artifacts();
        queue();
        take();
        finish();
        lose();
        workerRunAndStage();
        entries();
        entryStage();
        entryInput();
        everyLineIsTested();
        end();
    }

    // ---- how a bound is tested

    private interface IntCall {
        void make(PipelineRunner runner, int value);
    }

    /** The values from low to high are taken; those beyond, far beyond and at the ends of int are refused. */
    private static void range(int low, int high, Supplier<PipelineRunner> made, Class<?> due, IntCall call) {
        for (int value = low; value <= high; value++) {
            int each = value;
            taken("" + each, made, x -> call.make(x, each));
        }
        outside(low, high, made, due, call);
    }

    private static void outside(int low, int high, Supplier<PipelineRunner> made, Class<?> due, IntCall call) {
        // A shift by a number too large takes its lowest five bits, so 32 more may pass for the number itself.
        int[] wrong = {low - 1, high + 1, high + 2, low + 32, low - 32, low + 256, low + 65536, LOWEST, LOWEST + low,
            HIGHEST};
        for (int each : wrong) {
            if (each < low || each > high) {
                refused("" + each, made, due, x -> call.make(x, each));
            }
        }
    }

    /** A number that names one of so many things, from 0 on. */
    private static void numbers(int count, Supplier<PipelineRunner> made, IntCall call) {
        range(0, count - 1, made, INDEX, call);
    }

    /** Like numbers, for objects of 0, 1, 3 and 8 stages, each of two jobs. */
    private static void stageNumbers(IntCall call) {
        numbers(0, PipelineRunner::new, call);
        numbers(1, () -> withStages(2), call);
        numbers(3, () -> withStages(2, 2, 2), call);
        numbers(8, () -> withStages(2, 2, 2, 2, 2, 2, 2, 2), call);
    }

    /** The call changes stages: it is refused as long as a run goes on, and taken as soon as none does. */
    private static void changesStages(Consumer<PipelineRunner> call) {
        refused("a run that is GOING", BoundsTest::withARun, STATE, call);
        refused("a run that is GOING and has no job in the queue", BoundsTest::withRunningJobsOnly, STATE, call);
        refused("a run that is CANCELLING", BoundsTest::withACancellingRun, STATE, call);
        refused("the first of 80 runs goes on", () -> withEightyRunsAndOneOn(0), STATE, call);
        refused("the last of 80 runs goes on", () -> withEightyRunsAndOneOn(79), STATE, call);
        taken("no run", BoundsTest::withThreeStages, call);
        taken("a run that is GOOD", () -> withARunThatEnded(PipelineRunner.GOOD), call);
        taken("a run that is BAD", () -> withARunThatEnded(PipelineRunner.BAD), call);
        taken("a run that is CANCELLED", () -> withARunThatEnded(PipelineRunner.CANCELLED), call);
        taken("80 runs that have ended", BoundsTest::withEightyEndedRuns, call);
    }

    // ---- objects

    private static PipelineRunner withEightStages() {
        return withStages(1, 1, 1, 1, 1, 1, 1, 1);
    }

    private static PipelineRunner withSevenStages() {
        return withStages(1, 1, 1, 1, 1, 1, 1);
    }

    private static PipelineRunner withThreeStages() {
        return withStages(2, 1, 1);
    }

    private static PipelineRunner withARun() {
        PipelineRunner x = withThreeStages();
        x.setStage(0, 1, 2);
        x.push(0, 1, 2, 3);
        x.take(1);
        return x;
    }

    private static PipelineRunner withRunningJobsOnly() {
        PipelineRunner x = withThreeStages();
        x.push(0, 1, 2, 3);
        for (int worker = 0; worker < 4; worker++) {
            x.take(worker);
        }
        return x;
    }

    /** The only job that is RUNNING is one that can't be interrupted, of a run that was cancelled. */
    private static PipelineRunner withACancellingRun() {
        PipelineRunner x = withThreeStages();
        x.setMarks(0, false, false, false);
        x.push(0, 1, 2, 3);
        x.take(0);
        x.cancel(0);
        return x;
    }

    private static PipelineRunner withARunThatEnded(int state) {
        PipelineRunner x = withThreeStages();
        x.push(0, 1, 2, 3);
        for (int i = 0; i < 4 && state != PipelineRunner.CANCELLED; i++) {
            takeAndFinish(x, state == PipelineRunner.GOOD || i < 3);
        }
        if (state == PipelineRunner.CANCELLED) {
            x.cancel(0);
        }
        due("the state of the run that ended", x.state(0), state);
        return x;
    }

    private static PipelineRunner withEightyRuns() {
        PipelineRunner x = withThreeStages();
        for (int i = 0; i < 80; i++) {
            x.push(0, 0, 0, 0);
        }
        return x;
    }

    private static PipelineRunner withEightyEndedRuns() {
        PipelineRunner x = withEightyRuns();
        x.cancel(79);
        return x;
    }

    /** The run that goes on is the only one of its branch. */
    private static PipelineRunner withEightyRunsAndOneOn(int number) {
        PipelineRunner x = withThreeStages();
        for (int i = 0; i < 80; i++) {
            x.push(i == number ? 3 : 0, 0, 0, 0);
        }
        x.cancel(number == 79 ? 78 : 79);
        return x;
    }

    /** So many runs that are CANCELLING, and so many that are GOING, on the branches from 0 on. */
    private static PipelineRunner withRunsThatGoOn(int cancelling, int going) {
        PipelineRunner x = withStages(1);
        x.setMarks(0, false, false, false);
        for (int i = 0; i < cancelling; i++) {
            x.push(0, 0, 0, 0);
            x.take(i);
            x.cancel(i);
        }
        for (int branch = 0; branch < going; branch++) {
            x.push(branch, 0, 0, 0);
        }
        return x;
    }

    /** Entries of keys of the length 1, 2 and 3, of the stages 0, 1 and 2, in this order. */
    private static PipelineRunner withEntries() {
        PipelineRunner x = withStages(1, 1, 1);
        for (int stage = 0; stage < 3; stage++) {
            x.setStage(stage, 0, stage + 1);
        }
        x.push(0, 7, 0, 99);
        for (int stage = 0; stage < 3; stage++) {
            takeAndFinish(x, true);
        }
        return x;
    }

    private static PipelineRunner withTenEntries() {
        PipelineRunner x = withStages(1);
        x.setStage(0, 0, 1);
        for (int i = 0; i < 10; i++) {
            pushAndPass(x, i, 0, 0);
        }
        return x;
    }

    /** The longest queue: 8 stages of 16 jobs, pushed to 4 branches. */
    private static PipelineRunner withTheLongestQueue() {
        PipelineRunner x = new PipelineRunner();
        for (int i = 0; i < 8; i++) {
            x.addStage(4, 4);
        }
        for (int branch = 0; branch < 4; branch++) {
            x.push(branch, 0, 0, 0);
        }
        return x;
    }

    // ---- promise 1

    private static void newObject() {
        sentence("Promise 1", "No stages", () -> due("stages", new PipelineRunner().stages(), 0));
        sentence("Promise 1", "no runs", () -> due("runs", new PipelineRunner().runs(), 0));
        sentence("Promise 1", "no cache entries", () -> due("entries", new PipelineRunner().entries(), 0));
        sentence("Promise 1", "all workers are free", () -> {
            PipelineRunner x = new PipelineRunner();
            for (int worker = 0; worker < 4; worker++) {
                due("workerRun", x.workerRun(worker), PipelineRunner.NONE);
                due("workerStage", x.workerStage(worker), PipelineRunner.NONE);
                due("take", x.take(worker), PipelineRunner.NONE);
            }
        });
        sentence("Promise 1", "A new object", () -> {
            PipelineRunner used = withARun();
            due("another object beside a used one", new PipelineRunner().stages(), 0);
            due("its queue", new PipelineRunner().queued(), 0);
            due("the used one", used.queued(), 3);
        });
    }

    // ---- promises 2 to 9

    private static void addStage() {
        sentence("Promise 2", "- `rows`: 1 to 4", () -> {
            range(1, 4, BoundsTest::withSevenStages, ARGUMENT, (x, rows) -> x.addStage(rows, 1));
            range(1, 4, PipelineRunner::new, ARGUMENT, (x, rows) -> x.addStage(rows, 4));
        });
        sentence("Promise 2", "- `columns`: 1 to 4", () -> {
            range(1, 4, BoundsTest::withSevenStages, ARGUMENT, (x, columns) -> x.addStage(1, columns));
            range(1, 4, PipelineRunner::new, ARGUMENT, (x, columns) -> x.addStage(4, columns));
        });
        sentence("Promise 2", "Returns its number.", () -> {
            PipelineRunner x = new PipelineRunner();
            for (int i = 0; i < 8; i++) {
                due("addStage", x.addStage(1, 1), i);
            }
        });
        sentence("Promise 2", "Throws `IllegalArgumentException` if rows or columns is out of range", () -> {
            outside(1, 4, BoundsTest::withARun, ARGUMENT, (x, rows) -> x.addStage(rows, 1));
            outside(1, 4, BoundsTest::withACancellingRun, ARGUMENT, (x, columns) -> x.addStage(1, columns));
            outside(1, 4, BoundsTest::withEightStages, ARGUMENT, (x, rows) -> x.addStage(rows, 4));
            outside(1, 4, BoundsTest::withEightStages, ARGUMENT, (x, columns) -> x.addStage(4, columns));
            outside(1, 4, BoundsTest::withEightStages, ARGUMENT, (x, both) -> x.addStage(both, both));
        });
        sentence("Promise 2", GOES_ON, () -> changesStages(x -> x.addStage(1, 1)));
        sentence("Promise 2", "or there are 8 stages", () -> {
            taken("the eighth", BoundsTest::withSevenStages, x -> x.addStage(1, 1));
            refused("the ninth", BoundsTest::withEightStages, STATE, x -> x.addStage(1, 1));
            refused("the ninth, of 16 jobs", BoundsTest::withEightStages, STATE, x -> x.addStage(4, 4));
        });
    }

    private static void need() {
        sentence("Promise 3", A_STAGE, () -> {
            numbers(3, BoundsTest::withThreeStages, (x, stage) -> x.need(stage, stage == 0 ? 1 : 0));
            numbers(8, BoundsTest::withEightStages, (x, stage) -> x.need(stage, stage == 0 ? 1 : 0));
            numbers(0, PipelineRunner::new, (x, stage) -> x.need(stage, 0));
        });
        sentence("Promise 3", "- `other`: the stage that it needs", () -> {
            numbers(3, BoundsTest::withThreeStages, (x, other) -> x.need(other == 0 ? 1 : 0, other));
            numbers(8, BoundsTest::withEightStages, (x, other) -> x.need(other == 7 ? 0 : 7, other));
        });
        sentence("Promise 3", "Returns how many stages it needs directly then.", () -> {
            PipelineRunner x = withEightStages();
            for (int other = 0; other < 7; other++) {
                due("need", x.need(7, other), other + 1);
            }
            due("need of another stage", x.need(6, 0), 1);
            due("need beside one over others", chain(3).need(0, 2), 2);
            PipelineRunner ahead = fallingChain(3);
            ahead.addStage(1, 1);
            due("need of one that needs others", ahead.need(3, 2), 1);
            due("need of one of those", ahead.need(3, 0), 2);
            PipelineRunner behind = chain(3);
            behind.addStage(1, 1);
            due("need of a stage that others need", behind.need(2, 3), 1);
        });
        sentence("Promise 3", NO_STAGE, () -> {
            outside(0, 2, BoundsTest::withARun, INDEX, (x, stage) -> x.need(stage, 0));
            outside(0, 2, BoundsTest::withARun, INDEX, (x, other) -> x.need(0, other));
            outside(0, 2, BoundsTest::withThreeStages, INDEX, (x, both) -> x.need(both, both));
            outside(0, 2, BoundsTest::withACancellingRun, INDEX, (x, both) -> x.need(both, both));
        });
        sentence("Promise 3", GOES_ON, () -> changesStages(x -> x.need(1, 0)));
        sentence("Promise 3", "both are the same", () -> {
            for (int i = 0; i < 8; i++) {
                int stage = i;
                refused("need of itself", BoundsTest::withEightStages, STATE, x -> x.need(stage, stage));
            }
            refused("need of the only stage", () -> withStages(1), STATE, x -> x.need(0, 0));
        });
        sentence("Promise 3", "stage needs other directly already", () -> {
            refused("the lowest", () -> chain(8), STATE, x -> x.need(0, 1));
            refused("the highest", () -> chain(8), STATE, x -> x.need(6, 7));
            taken("one that it needs over one other", () -> chain(8), x -> x.need(0, 2));
            taken("one that it needs over all others", () -> chain(8), x -> x.need(0, 7));
        });
        sentence("Promise 3", "or other needs stage, directly or over others", () -> {
            for (int i = 0; i < 8; i++) {
                for (int j = i + 1; j < 8; j++) {
                    int low = i;
                    int high = j;
                    refused("a chain's end", () -> chain(8), STATE, x -> x.need(high, low));
                    refused("a chain's end that falls", () -> fallingChain(8), STATE, x -> x.need(low, high));
                }
            }
        });
    }

    /** Each stage but the last needs the next. */
    private static PipelineRunner chain(int length) {
        PipelineRunner x = new PipelineRunner();
        for (int i = 0; i < length; i++) {
            x.addStage(1, 1);
        }
        for (int i = 0; i + 1 < length; i++) {
            x.need(i, i + 1);
        }
        return x;
    }

    /** Each stage but the first needs the one before. */
    private static PipelineRunner fallingChain(int length) {
        PipelineRunner x = new PipelineRunner();
        for (int i = 0; i < length; i++) {
            x.addStage(1, 1);
        }
        for (int i = 1; i < length; i++) {
            x.need(i, i - 1);
        }
        return x;
    }

    private static void exclude() {
        sentence("Promise 4", A_STAGE, () -> stageNumbers((x, stage) -> x.exclude(stage, 0, 0)));
        sentence("Promise 4", "- `row`: its row", () -> {
            for (int rows = 1; rows <= 4; rows++) {
                int each = rows;
                numbers(each, () -> withMatrix(each, 2), (x, row) -> x.exclude(0, row, 1));
            }
        });
        sentence("Promise 4", "- `column`: its column", () -> {
            for (int columns = 1; columns <= 4; columns++) {
                int each = columns;
                numbers(each, () -> withMatrix(2, each), (x, column) -> x.exclude(0, 1, column));
            }
        });
        sentence("Promise 4", "Returns how many jobs the stage has then.", () -> {
            PipelineRunner x = withMatrix(4, 4);
            for (int i = 15; i > 0; i--) {
                due("exclude", x.exclude(0, i / 4, i % 4), i);
            }
        });
        sentence("Promise 4", "Throws `IndexOutOfBoundsException` if there is no such stage, row or column", () -> {
            outside(0, 2, BoundsTest::withARun, INDEX, (x, stage) -> x.exclude(stage, 0, 0));
            outside(0, 0, BoundsTest::withARun, INDEX, (x, row) -> x.exclude(0, row, 0));
            outside(0, 1, BoundsTest::withARun, INDEX, (x, column) -> x.exclude(0, 0, column));
            outside(0, 2, BoundsTest::withACancellingRun, INDEX, (x, stage) -> x.exclude(stage, 0, 0));
            // The row 0 of a stage with 3 columns has no column 3, though the job 3 is there.
            refused("a column of the next row", () -> withMatrix(2, 3), INDEX, x -> x.exclude(0, 0, 3));
            refused("a column before the row", () -> withMatrix(2, 3), INDEX, x -> x.exclude(0, 1, -1));
        });
        sentence("Promise 4", GOES_ON, () -> changesStages(x -> x.exclude(0, 0, 0)));
        sentence("Promise 4", "the job is excluded", () -> {
            for (int i = 0; i < 16; i++) {
                int row = i / 4;
                int column = i % 4;
                refused("the job again", () -> {
                    PipelineRunner x = withMatrix(4, 4);
                    x.exclude(0, row, column);
                    return x;
                }, STATE, x -> x.exclude(0, row, column));
            }
        });
        sentence("Promise 4", "or it is the last one that is not", () -> {
            for (int i = 0; i < 16; i++) {
                int last = i;
                refused("the last job", () -> withOneLeft(last), STATE, x -> x.exclude(0, last / 4, last % 4));
                refused("an excluded job beside the last", () -> withOneLeft(last), STATE,
                        x -> x.exclude(0, 3 - last / 4, last % 4));
            }
            refused("the only job", () -> withMatrix(1, 1), STATE, x -> x.exclude(0, 0, 0));
            taken("the last but one", () -> withMatrix(1, 2), x -> x.exclude(0, 0, 1));
        });
    }

    /** A stage of 4 rows and columns of which all jobs but one are excluded. */
    private static PipelineRunner withOneLeft(int last) {
        PipelineRunner x = withMatrix(4, 4);
        for (int job = 0; job < 16; job++) {
            if (job != last) {
                x.exclude(0, job / 4, job % 4);
            }
        }
        return x;
    }

    private static void setStage() {
        sentence("Promise 5", A_STAGE, () -> stageNumbers((x, stage) -> x.setStage(stage, 2, 3)));
        sentence("Promise 5", "- `retries`: 0 to 2", () -> {
            range(0, 2, BoundsTest::withEntries, ARGUMENT, (x, retries) -> x.setStage(1, retries, 1));
            for (int retries = 0; retries <= 2; retries++) {
                PipelineRunner x = withStages(1);
                x.setStage(0, 2 - retries, 0);
                x.setStage(0, retries, 0);
                x.push(0, 0, 0, 0);
                for (int fails = 0; fails <= retries; fails++) {
                    x.take(0);
                    due("fails before: " + fails, x.finish(0, false),
                            fails < retries ? PipelineRunner.QUEUED : PipelineRunner.FAILED);
                }
            }
        });
        sentence("Promise 5", "- `length`: 0 to 3", () -> {
            range(0, 3, BoundsTest::withEntries, ARGUMENT, (x, length) -> x.setStage(1, 1, length));
            String[] want = {"", "5 -1 -1", "5 6 -1", "5 6 7"};
            for (int length = 0; length <= 3; length++) {
                PipelineRunner x = withStages(1);
                x.setStage(0, 0, 3 - length);
                x.setStage(0, 0, length);
                pushAndPass(x, 5, 6, 7);
                due("the key", keys(x), want[length]);
            }
        });
        sentence("Promise 5", "Returns how many cache entries are dropped by that.", () -> {
            due("all 10", withTenEntries().setStage(0, 0, 2), 10);
            due("none of 10, as the length is the same", withTenEntries().setStage(0, 2, 1), 0);
            due("one of three", withEntries().setStage(2, 0, 0), 1);
            due("none, as there are none", withThreeStages().setStage(2, 0, 3), 0);
        });
        sentence("Promise 5", NO_STAGE, () -> {
            outside(0, 2, BoundsTest::withThreeStages, INDEX, (x, stage) -> x.setStage(stage, 3, 0));
            outside(0, 2, BoundsTest::withThreeStages, INDEX, (x, stage) -> x.setStage(stage, 0, -1));
            outside(0, 2, BoundsTest::withARun, INDEX, (x, stage) -> x.setStage(stage, 0, 0));
            outside(0, 2, BoundsTest::withACancellingRun, INDEX, (x, stage) -> x.setStage(stage, -1, 4));
        });
        sentence("Promise 5", "Throws `IllegalArgumentException` if retries or length is out of range", () -> {
            outside(0, 2, BoundsTest::withARun, ARGUMENT, (x, retries) -> x.setStage(0, retries, 0));
            outside(0, 3, BoundsTest::withARun, ARGUMENT, (x, length) -> x.setStage(0, 0, length));
            outside(0, 3, BoundsTest::withACancellingRun, ARGUMENT, (x, both) -> x.setStage(2, both, both));
        });
        sentence("Promise 5", GOES_ON, () -> {
            changesStages(x -> x.setStage(0, 2, 1));
            // What they are already.
            changesStages(x -> x.setStage(2, 0, 0));
        });
    }

    private static void setMarks() {
        sentence("Promise 6", A_STAGE, () -> stageNumbers((x, stage) -> x.setMarks(stage, true, true, false)));
        sentence("Promise 6", "- `stopsFast`: true if it stops fast", () -> {
            due("true", afterAFail(true, false), "4 5");
            due("false", afterAFail(false, false), "4 1");
        });
        sentence("Promise 6", "- `mayFail`: true if it may fail", () -> {
            due("true", stateAfterOneFail(true), PipelineRunner.GOOD);
            due("false", stateAfterOneFail(false), PipelineRunner.BAD);
        });
        sentence("Promise 6", "- `isInterruptible`: true if it can be interrupted", () -> {
            due("true", cancelledOfOneRunning(true), 1);
            due("false", cancelledOfOneRunning(false), 0);
        });
        sentence("Promise 6", NO_STAGE, () -> {
            outside(0, 2, BoundsTest::withARun, INDEX, (x, stage) -> x.setMarks(stage, true, true, false));
            outside(0, 2, BoundsTest::withACancellingRun, INDEX, (x, stage) -> x.setMarks(stage, true, true, false));
        });
        sentence("Promise 6", GOES_ON, () -> {
            changesStages(x -> x.setMarks(0, true, true, false));
            // What they are already.
            changesStages(x -> x.setMarks(2, false, false, true));
        });
    }

    private static String afterAFail(boolean stopsFast, boolean mayFail) {
        PipelineRunner x = withStages(2);
        x.setMarks(0, !stopsFast, !mayFail, false);
        x.setMarks(0, stopsFast, mayFail, true);
        x.push(0, 0, 0, 0);
        takeAndFinish(x, false);
        return jobStates(x, 0, 0, 2);
    }

    private static int stateAfterOneFail(boolean mayFail) {
        PipelineRunner x = withStages(1);
        x.setMarks(0, true, !mayFail, false);
        x.setMarks(0, false, mayFail, true);
        x.push(0, 0, 0, 0);
        takeAndFinish(x, false);
        return x.state(0);
    }

    private static int cancelledOfOneRunning(boolean isInterruptible) {
        PipelineRunner x = withStages(1);
        x.setMarks(0, true, true, !isInterruptible);
        x.setMarks(0, false, false, isInterruptible);
        x.push(0, 0, 0, 0);
        x.take(0);
        return x.cancel(0);
    }

    private static void stages() {
        sentence("Promise 7", "Returns the number of stages.", () -> {
            PipelineRunner x = new PipelineRunner();
            for (int i = 0; i < 8; i++) {
                due("before another", x.stages(), i);
                x.addStage(4, 4);
            }
            due("at the most", x.stages(), 8);
        });
    }

    private static void jobs() {
        sentence("Promise 8", A_STAGE, () -> stageNumbers((x, stage) -> x.jobs(stage)));
        sentence("Promise 8", "Returns how many, excluded ones not counted.", () -> {
            due("the most", withMatrix(4, 4).jobs(0), 16);
            due("the fewest of the largest", withOneLeft(9).jobs(0), 1);
            due("the fewest", withMatrix(1, 1).jobs(0), 1);
        });
        sentence("Promise 8", NO_STAGE, () -> {
            outside(0, 2, BoundsTest::withARun, INDEX, (x, stage) -> x.jobs(stage));
            refused("no stage at all", PipelineRunner::new, INDEX, x -> x.jobs(0));
        });
    }

    private static void needs() {
        sentence("Promise 9", A_STAGE, () -> stageNumbers((x, stage) -> x.needs(stage, 0)));
        sentence("Promise 9", "- `other`: a stage", () -> stageNumbers((x, other) -> x.needs(0, other)));
        sentence("Promise 9", "Returns true if so.", () -> {
            for (int stage = 0; stage < 8; stage++) {
                for (int other = 0; other < 8; other++) {
                    due(stage + " over " + other, chain(8).needs(stage, other), stage < other);
                    due(stage + " falling over " + other, fallingChain(8).needs(stage, other), stage > other);
                    due(stage + " without needs " + other, withEightStages().needs(stage, other), false);
                }
            }
        });
        sentence("Promise 9", NO_STAGE, () -> {
            outside(0, 2, BoundsTest::withARun, INDEX, (x, stage) -> x.needs(stage, 0));
            outside(0, 2, BoundsTest::withARun, INDEX, (x, other) -> x.needs(0, other));
            outside(0, 2, BoundsTest::withARun, INDEX, (x, both) -> x.needs(both, both));
            outside(0, 7, () -> chain(8), INDEX, (x, other) -> x.needs(7, other));
        });
    }

    // ---- promises 10 to 18

    private static void push() {
        sentence("Promise 10", "- `branch`: 0 to 3", () -> {
            numbers(4, BoundsTest::withThreeStages, (x, branch) -> x.push(branch, 0, 0, 0));
            numbers(4, () -> withRunsThatGoOn(1, 4), (x, branch) -> x.push(branch, 99, 99, 99));
        });
        sentence("Promise 10", "- `first`: the first input, 0 to 99",
                () -> range(0, 99, BoundsTest::withThreeStages, ARGUMENT, (x, input) -> x.push(0, input, 0, 0)));
        sentence("Promise 10", "- `second`: the second input, 0 to 99",
                () -> range(0, 99, BoundsTest::withThreeStages, ARGUMENT, (x, input) -> x.push(0, 0, input, 0)));
        sentence("Promise 10", "- `third`: the third input, 0 to 99",
                () -> range(0, 99, BoundsTest::withThreeStages, ARGUMENT, (x, input) -> x.push(0, 0, 0, input)));
        sentence("Promise 10", "Returns the number of the new run.", () -> {
            PipelineRunner x = withThreeStages();
            for (int i = 0; i < 80; i++) {
                due("push", x.push(i % 4, 0, 0, 0), i);
            }
        });
        sentence("Promise 10", "Throws `IndexOutOfBoundsException` if there is no such branch", () -> {
            outside(0, 3, BoundsTest::withARun, INDEX, (x, branch) -> x.push(branch, 0, 0, 0));
            outside(0, 3, BoundsTest::withARun, INDEX, (x, branch) -> x.push(branch, -1, 0, 0));
            outside(0, 3, BoundsTest::withARun, INDEX, (x, branch) -> x.push(branch, 0, 100, 0));
            outside(0, 3, PipelineRunner::new, INDEX, (x, branch) -> x.push(branch, 0, 0, 0));
            outside(0, 3, () -> withRunsThatGoOn(2, 4), INDEX, (x, branch) -> x.push(branch, 0, 0, -1));
            outside(0, 3, BoundsTest::withEightyRuns, INDEX, (x, branch) -> x.push(branch, 0, 0, 100));
        });
        sentence("Promise 10", "Throws `IllegalArgumentException` if an input is out of range", () -> {
            outside(0, 99, PipelineRunner::new, ARGUMENT, (x, input) -> x.push(0, input, 0, 0));
            outside(0, 99, () -> withRunsThatGoOn(2, 4), ARGUMENT, (x, input) -> x.push(1, 99, input, 0));
            outside(0, 99, BoundsTest::withEightyRuns, ARGUMENT, (x, input) -> x.push(0, 0, 99, input));
            outside(0, 99, BoundsTest::withARun, ARGUMENT, (x, input) -> x.push(0, input, input, input));
        });
        sentence("Promise 10", "Throws `IllegalStateException` if there is no stage", () -> {
            for (int i = 0; i < 4; i++) {
                int branch = i;
                refused("the branch " + branch, PipelineRunner::new, STATE, x -> x.push(branch, 0, 99, 0));
            }
            taken("one stage", () -> withStages(1), x -> x.push(0, 0, 99, 0));
        });
        sentence("Promise 10", "6 runs go on (one that would be cancelled counted)", BoundsTest::sixRuns);
        sentence("Promise 10", "or there are 80 runs, those that have ended counted", () -> {
            refused("the last goes on", BoundsTest::withEightyRuns, STATE, x -> x.push(0, 0, 0, 0));
            refused("the last goes on, on another branch", BoundsTest::withEightyRuns, STATE, x -> x.push(1, 0, 0, 0));
            refused("all have ended", BoundsTest::withEightyEndedRuns, STATE, x -> x.push(0, 0, 0, 0));
            refused("the first goes on", () -> withEightyRunsAndOneOn(0), STATE, x -> x.push(3, 0, 0, 0));
            due("the last of 80", lastPushOfEighty(), 79);
        });
    }

    private static void sixRuns() {
        for (int cancelling = 2; cancelling <= 4; cancelling++) {
            int count = cancelling;
            Supplier<PipelineRunner> six = () -> withRunsThatGoOn(count, 6 - count);
            Supplier<PipelineRunner> five = () -> withRunsThatGoOn(count, 5 - count);
            for (int i = 0; i < 4; i++) {
                int branch = i;
                refused("six, the branch " + branch, six, STATE, x -> x.push(branch, 0, 0, 0));
                taken("five, the branch " + branch, five, x -> x.push(branch, 0, 0, 0));
            }
            PipelineRunner x = six.get();
            x.finish(0, true);
            due("a push as soon as five are left", x.push(3, 0, 0, 0), 6);
        }
        PipelineRunner x = withRunsThatGoOn(4, 1);
        for (int i = 0; i < 20; i++) {
            due("a push that cancels one of five", x.push(0, 0, 0, 0), 5 + i);
        }
    }

    private static int lastPushOfEighty() {
        PipelineRunner x = withThreeStages();
        for (int i = 0; i < 79; i++) {
            x.push(0, 0, 0, 0);
        }
        x.cancel(78);
        return x.push(0, 0, 0, 0);
    }

    /** Like numbers, for objects of 0, 1, 3 and 80 runs, all GOING or all ended but the last. */
    private static void runNumbers(IntCall call) {
        numbers(0, BoundsTest::withThreeStages, call);
        numbers(1, BoundsTest::withARun, call);
        numbers(3, () -> withRunsThatGoOn(0, 3), call);
        outside(0, 79, BoundsTest::withEightyRuns, INDEX, call);
    }

    private static void cancel() {
        sentence("Promise 11", "- `run`: a run", () -> {
            runNumbers((x, run) -> x.cancel(run));
            taken("the last of 80", BoundsTest::withEightyRuns, x -> x.cancel(79));
        });
        sentence("Promise 11", "Returns how many of its jobs became CANCELLED by that.", () -> {
            due("all of the most", withTheLongestQueue().cancel(3), 128);
            due("one RUNNING, three QUEUED", withARun().cancel(0), 4);
            PipelineRunner x = withStages(1);
            x.setMarks(0, false, false, false);
            x.push(0, 0, 0, 0);
            x.take(0);
            due("none", x.cancel(0), 0);
            due("one of which one is excluded", cancelledOfExcluded(), 1);
            due("those that were not cancelled before", cancelledBesideStopped(), 1);
            due("those that are RUNNING in a stage that has stopped", cancelledInStopped(), 2);
        });
        sentence("Promise 11", "Throws `IndexOutOfBoundsException` if there is no such run", () -> {
            outside(0, 0, BoundsTest::withACancellingRun, INDEX, (x, run) -> x.cancel(run));
            refused("no run at all", PipelineRunner::new, INDEX, x -> x.cancel(0));
        });
        sentence("Promise 11", "Throws `IllegalStateException` if it is not GOING", () -> {
            refused("CANCELLING", BoundsTest::withACancellingRun, STATE, x -> x.cancel(0));
            int[] ended = {PipelineRunner.GOOD, PipelineRunner.BAD, PipelineRunner.CANCELLED};
            for (int each : ended) {
                refused("the state " + each, () -> withARunThatEnded(each), STATE, x -> x.cancel(0));
            }
            for (int i = 0; i < 80; i++) {
                int run = i;
                refused("an ended run of 80", BoundsTest::withEightyEndedRuns, STATE, x -> x.cancel(run));
            }
        });
    }

    private static int cancelledOfExcluded() {
        PipelineRunner x = withStages(2);
        x.exclude(0, 0, 0);
        x.push(0, 0, 0, 0);
        return x.cancel(0);
    }

    private static int cancelledInStopped() {
        PipelineRunner x = withStages(4);
        x.setMarks(0, true, true, true);
        x.push(0, 0, 0, 0);
        x.take(0);
        x.take(1);
        x.take(2);
        x.finish(1, false);
        return x.cancel(0);
    }

    private static int cancelledBesideStopped() {
        PipelineRunner x = withStages(3, 1);
        x.setMarks(0, true, false, true);
        x.push(0, 0, 0, 0);
        takeAndFinish(x, false);
        return x.cancel(0);
    }

    private static void runs() {
        sentence("Promise 12", "Returns the number of runs.", () -> {
            PipelineRunner x = withThreeStages();
            due("at first", x.runs(), 0);
            for (int i = 0; i < 80; i++) {
                x.push(0, 0, 0, 0);
                due("after a push", x.runs(), i + 1);
            }
            x.cancel(79);
            due("when all have ended", x.runs(), 80);
        });
    }

    private static void state() {
        sentence("Promise 13", "- `run`: a run", () -> {
            runNumbers((x, run) -> x.state(run));
            range(0, 79, BoundsTest::withEightyRuns, INDEX, (x, run) -> x.state(run));
        });
        sentence("Promise 13", "Returns GOING, CANCELLING, GOOD, BAD or CANCELLED.", () -> {
            due("GOING", withARun().state(0), 7);
            due("CANCELLING", withACancellingRun().state(0), 8);
            due("GOOD", withARunThatEnded(9).state(0), 9);
            due("BAD", withARunThatEnded(10).state(0), 10);
            due("CANCELLED", withARunThatEnded(5).state(0), 5);
            due("the first of 80", withEightyRuns().state(0), 5);
            due("the last of 80", withEightyRuns().state(79), 7);
        });
        sentence("Promise 13", "Throws `IndexOutOfBoundsException` if there is no such run", () -> {
            refused("no stage at all", PipelineRunner::new, INDEX, x -> x.state(0));
            outside(0, 0, BoundsTest::withACancellingRun, INDEX, (x, run) -> x.state(run));
        });
    }

    private interface JobCall {
        void make(PipelineRunner runner, int run, int stage, int job);
    }

    /** The bounds of a call that names a job of a run. */
    private static void namesAJob(String promise, JobCall call) {
        sentence(promise, "- `run`: a run", () -> {
            runNumbers((x, run) -> call.make(x, run, 0, 0));
            range(0, 79, BoundsTest::withEightyRuns, INDEX, (x, run) -> call.make(x, run, 2, 0));
        });
        sentence(promise, STAGE_THEN, () -> {
            numbers(3, BoundsTest::withARun, (x, stage) -> call.make(x, 0, stage, 0));
            numbers(8, () -> pushed(withEightStages()), (x, stage) -> call.make(x, 0, stage, 0));
            numbers(3, BoundsTest::withMoreStagesNow, (x, stage) -> call.make(x, 0, stage, 0));
        });
        sentence(promise, JOB_THEN, () -> {
            for (int rows = 1; rows <= 4; rows++) {
                for (int columns = 1; columns <= 4; columns++) {
                    int a = rows;
                    int b = columns;
                    numbers(a * b, () -> pushed(withMatrix(a, b)), (x, job) -> call.make(x, 0, 0, job));
                }
            }
            for (int i = 0; i < 16; i++) {
                int left = i;
                range(left, left, () -> pushed(withOneLeft(left)), INDEX, (x, job) -> call.make(x, 0, 0, job));
            }
            numbers(2, BoundsTest::withFewerJobsNow, (x, job) -> call.make(x, 0, 0, job));
        });
        sentence(promise, NO_JOB, () -> {
            refused("nothing at all", PipelineRunner::new, INDEX, x -> call.make(x, 0, 0, 0));
            refused("all wrong", BoundsTest::withARun, INDEX, x -> call.make(x, -1, -1, -1));
            refused("all too large", BoundsTest::withARun, INDEX, x -> call.make(x, HIGHEST, HIGHEST, HIGHEST));
            refused("the next run alone", BoundsTest::withARun, INDEX, x -> call.make(x, 1, 0, 0));
            refused("the next stage alone", BoundsTest::withARun, INDEX, x -> call.make(x, 0, 3, 0));
            refused("the next job alone", BoundsTest::withARun, INDEX, x -> call.make(x, 0, 0, 2));
            refused("a job of another stage", BoundsTest::withARun, INDEX, x -> call.make(x, 0, 1, 1));
        });
    }

    private static PipelineRunner pushed(PipelineRunner x) {
        x.push(0, 1, 2, 3);
        return x;
    }

    /** The run has three stages; there are five now. */
    private static PipelineRunner withMoreStagesNow() {
        PipelineRunner x = withARunThatEnded(PipelineRunner.GOOD);
        x.addStage(1, 1);
        x.addStage(1, 1);
        return x;
    }

    /** The run has two jobs of the stage 0; one of them is excluded now. */
    private static PipelineRunner withFewerJobsNow() {
        PipelineRunner x = withARunThatEnded(PipelineRunner.GOOD);
        x.exclude(0, 0, 0);
        return x;
    }

    private static void jobState() {
        namesAJob("Promise 14", (x, run, stage, job) -> x.jobState(run, stage, job));
        sentence("Promise 14", "Returns WAITING, QUEUED, RUNNING, PASSED, FAILED, CANCELLED or SKIPPED.", () -> {
            PipelineRunner x = withStages(3, 1);
            x.need(1, 0);
            x.push(0, 0, 0, 0);
            due("WAITING", x.jobState(0, 1, 0), 0);
            due("QUEUED", x.jobState(0, 0, 0), 1);
            x.take(0);
            due("RUNNING", x.jobState(0, 0, 0), 2);
            x.finish(0, true);
            due("PASSED", x.jobState(0, 0, 0), 3);
            takeAndFinish(x, false);
            due("FAILED", x.jobState(0, 0, 1), 4);
            takeAndFinish(x, true);
            due("SKIPPED", x.jobState(0, 1, 0), 6);
            x.push(0, 0, 0, 0);
            x.cancel(1);
            due("CANCELLED", x.jobState(1, 0, 0), 5);
        });
    }

    private static void attempts() {
        namesAJob("Promise 15", (x, run, stage, job) -> x.attempts(run, stage, job));
        sentence("Promise 15", "Returns how often.", () -> {
            PipelineRunner x = pushed(withStages(1));
            due("never", x.attempts(0, 0, 0), 0);
            for (int i = 0; i < 200; i++) {
                x.take(i % 4);
                x.lose(i % 4);
            }
            due("taken and lost", x.attempts(0, 0, 0), 200);
            x.take(0);
            due("taken", x.attempts(0, 0, 0), 201);
            x.cancel(0);
            due("cancelled", x.attempts(0, 0, 0), 201);
            due("never, of a job of a run after it", pushed(x).attempts(1, 0, 0), 0);
        });
    }

    private static void restored() {
        namesAJob("Promise 16", (x, run, stage, job) -> x.restored(run, stage, job));
        sentence("Promise 16", "Returns 0 to 3", () -> {
            for (int length = 1; length <= 3; length++) {
                for (int common = 0; common <= 3; common++) {
                    due("the length " + length + ", " + common + " alike", restoredOf(length, common),
                            Math.min(length, common));
                }
            }
        });
        sentence("Promise 16", "NONE if it was not taken so far", () -> {
            PipelineRunner x = withEntries();
            x.push(0, 7, 0, 99);
            due("QUEUED", x.restored(1, 0, 0), PipelineRunner.NONE);
            x.cancel(1);
            due("CANCELLED", x.restored(1, 0, 0), PipelineRunner.NONE);
        });
        sentence("Promise 16", "or its stage had a key of the length 0", () -> {
            due("taken", restoredOf(0, 3), PipelineRunner.NONE);
            PipelineRunner x = withEntries();
            x.setStage(0, 0, 0);
            due("of an older run that had a key", x.restored(0, 0, 0), 0);
            x.push(0, 7, 0, 99);
            takeAndFinish(x, true);
            x.take(0);
            due("of the stage with a key beside it", x.restored(1, 1, 0), 2);
            due("of a run after that", x.restored(1, 0, 0), PipelineRunner.NONE);
            x.cancel(1);
            x.setStage(0, 0, 1);
            due("of a run before a key", x.restored(1, 0, 0), PipelineRunner.NONE);
        });
        sentence("Promise 16", "when it was taken by a worker the latest time", BoundsTest::restoredLatest);
    }

    /** One entry; then a job whose inputs are alike from the first on, as many as told. */
    private static int restoredOf(int length, int common) {
        PipelineRunner x = withStages(1);
        x.setStage(0, 0, length);
        pushAndPass(x, 1, 1, 1);
        x.push(0, common > 0 ? 1 : 2, common > 1 ? 1 : 2, common > 2 ? 1 : 2);
        x.take(0);
        return x.restored(1, 0, 0);
    }

    /** A job that is taken three times: without an entry, with one, and when that was dropped. */
    private static void restoredLatest() {
        PipelineRunner x = withStages(2);
        x.setStage(0, 0, 1);
        x.push(0, 50, 0, 0);
        x.take(0);
        due("without an entry", x.restored(0, 0, 0), 0);
        x.take(1);
        x.finish(1, true);
        due("with an entry made since", x.restored(0, 0, 0), 0);
        x.lose(0);
        due("when lost", x.restored(0, 0, 0), 0);
        x.take(0);
        due("taken again", x.restored(0, 0, 0), 1);
        for (int i = 0; i < 10; i++) {
            x.push(1, i, 0, 0);
            x.take(1);
            x.finish(1, true);
        }
        x.cancel(10);
        due("with its entry dropped since", x.restored(0, 0, 0), 1);
        x.lose(0);
        x.take(0);
        due("taken again without an entry", x.restored(0, 0, 0), 0);
        due("taken", x.attempts(0, 0, 0), 3);
    }

    private static void isGood() {
        sentence("Promise 17", "- `run`: a run", () -> {
            runNumbers((x, run) -> x.isGood(run, 0));
            range(0, 79, BoundsTest::withEightyRuns, INDEX, (x, run) -> x.isGood(run, 2));
        });
        sentence("Promise 17", STAGE_THEN, () -> stagesThen((x, stage) -> x.isGood(0, stage)));
        sentence("Promise 17", "Returns true if it is over and good.", () -> {
            PipelineRunner x = pushed(withStages(2));
            due("nothing passed", x.isGood(0, 0), false);
            takeAndFinish(x, true);
            due("all but one passed", x.isGood(0, 0), false);
            x.take(0);
            due("the last RUNNING", x.isGood(0, 0), false);
            x.finish(0, true);
            due("all passed", x.isGood(0, 0), true);
            due("over, and not good", withARunThatEnded(PipelineRunner.BAD).isGood(0, 2), false);
            due("good beside one that is not", withARunThatEnded(PipelineRunner.BAD).isGood(0, 0), true);
            PipelineRunner marked = withARunThatEnded(PipelineRunner.BAD);
            marked.setMarks(2, false, true, true);
            due("not good, though the stage may fail now", marked.isGood(0, 2), false);
        });
        sentence("Promise 17", "Throws `IndexOutOfBoundsException` if there is no such run, or it has no such stage",
                () -> noRunOrStage((x, at) -> x.isGood(at[0], at[1])));
    }

    private static void stagesThen(IntCall call) {
        numbers(3, BoundsTest::withARun, call);
        numbers(8, () -> pushed(withEightStages()), call);
        numbers(3, BoundsTest::withMoreStagesNow, call);
    }

    private interface RunAndStageCall {
        void make(PipelineRunner runner, int[] at);
    }

    private static void noRunOrStage(RunAndStageCall call) {
        int[][] wrong = {{0, 3}, {1, 0}, {1, 3}, {-1, 0}, {0, -1}, {-1, -1}, {LOWEST, LOWEST}, {HIGHEST, HIGHEST},
            {0, HIGHEST}, {0, LOWEST}, {HIGHEST, 0}, {LOWEST, 0}};
        for (int[] at : wrong) {
            refused(at[0] + ", " + at[1], BoundsTest::withARun, INDEX, x -> call.make(x, at));
        }
        refused("no run at all", BoundsTest::withThreeStages, INDEX, x -> call.make(x, new int[] {0, 0}));
    }

    private static void artifacts() {
        sentence("Promise 18", "- `run`: a run", () -> {
            runNumbers((x, run) -> x.artifacts(run, 0));
            range(0, 79, BoundsTest::withEightyRuns, INDEX, (x, run) -> x.artifacts(run, 2));
        });
        sentence("Promise 18", STAGE_THEN, () -> stagesThen((x, stage) -> x.artifacts(0, stage)));
        sentence("Promise 18", "Returns how many, as it is now.", () -> {
            PipelineRunner x = new PipelineRunner();
            for (int stage = 0; stage < 8; stage++) {
                x.addStage(4, 4);
            }
            for (int other = 0; other < 7; other++) {
                x.need(7, other);
            }
            x.push(0, 0, 0, 0);
            for (int i = 0; i < 112; i++) {
                due("so far", x.artifacts(0, 7), i);
                takeAndFinish(x, true);
            }
            due("the most", x.artifacts(0, 7), 112);
            due("of a stage without needs", x.artifacts(0, 0), 0);
        });
        sentence("Promise 18", "one of each job that is PASSED of the stages that it needs directly", () -> {
            PipelineRunner x = withStages(2, 2, 1);
            x.need(1, 0);
            x.need(2, 1);
            x.setMarks(0, false, true, true);
            x.push(0, 0, 0, 0);
            takeAndFinish(x, true);
            x.take(0);
            due("one PASSED, one RUNNING", x.artifacts(0, 1), 1);
            x.finish(0, false);
            due("one PASSED, one FAILED", x.artifacts(0, 1), 1);
            due("of a stage needed over another", x.artifacts(0, 2), 0);
            takeAndFinish(x, true);
            due("of the stage needed directly", x.artifacts(0, 2), 1);
            due("of the first as before", x.artifacts(0, 1), 1);
        });
        sentence("Promise 18", "Throws `IndexOutOfBoundsException` if there is no such run, or it has no such stage",
                () -> noRunOrStage((x, at) -> x.artifacts(at[0], at[1])));
    }

    // ---- promises 19 to 26

    private static void queue() {
        sentence("Promise 19", "Returns the length of the queue.", () -> {
            due("no stage", new PipelineRunner().queued(), 0);
            due("no run", withThreeStages().queued(), 0);
            due("the longest", withTheLongestQueue().queued(), 512);
            PipelineRunner x = pushed(withStages(2));
            due("two", x.queued(), 2);
            x.take(0);
            due("one taken", x.queued(), 1);
            x.lose(0);
            due("and lost", x.queued(), 2);
            x.cancel(0);
            due("cancelled", x.queued(), 0);
        });
        sentence("Promise 20", "- `place`: 0 for the first job", () -> queuePlaces((x, place) -> x.queuedRun(place)));
        sentence("Promise 20", "Returns its run.", () -> {
            PipelineRunner x = withTheLongestQueue();
            for (int run = 0; run < 4; run++) {
                due("the first of a run", x.queuedRun(run * 128), run);
                due("the last of a run", x.queuedRun(run * 128 + 127), run);
            }
        });
        sentence("Promise 20", NO_PLACE, () -> noQueuePlace((x, place) -> x.queuedRun(place)));
        sentence("Promise 21", "- `place`: 0 for the first job", () -> queuePlaces((x, place) -> x.queuedStage(place)));
        sentence("Promise 21", "Returns its stage.", () -> {
            PipelineRunner x = withTheLongestQueue();
            for (int stage = 0; stage < 8; stage++) {
                due("the first of a stage", x.queuedStage(stage * 16), stage);
                due("the last of a stage in the last run", x.queuedStage(384 + stage * 16 + 15), stage);
            }
        });
        sentence("Promise 21", NO_PLACE, () -> noQueuePlace((x, place) -> x.queuedStage(place)));
    }

    private static void queuePlaces(IntCall call) {
        numbers(1, () -> pushed(withStages(1)), call);
        numbers(3, BoundsTest::withARun, call);
        taken("the last of the longest", BoundsTest::withTheLongestQueue, x -> call.make(x, 511));
        int[] wrong = {-1, 512, 513, LOWEST, HIGHEST};
        for (int each : wrong) {
            refused("" + each + " of the longest", BoundsTest::withTheLongestQueue, INDEX, x -> call.make(x, each));
        }
    }

    private static void noQueuePlace(IntCall call) {
        numbers(0, PipelineRunner::new, call);
        numbers(0, BoundsTest::withThreeStages, call);
        numbers(0, BoundsTest::withRunningJobsOnly, call);
        numbers(0, BoundsTest::withEightyEndedRuns, call);
    }

    /** The worker 2 has the only job. */
    private static PipelineRunner withABusyWorker() {
        PipelineRunner x = withStages(1);
        x.setStage(0, 1, 2);
        x.push(0, 1, 2, 3);
        x.take(2);
        return x;
    }

    private static void take() {
        sentence("Promise 22", WORKER, () -> {
            numbers(4, () -> pushed(withThreeStages()), (x, worker) -> x.take(worker));
            numbers(4, PipelineRunner::new, (x, worker) -> x.take(worker));
        });
        sentence("Promise 22", "Returns the number of the job in its stage", () -> {
            PipelineRunner x = pushed(withMatrix(4, 4));
            for (int job = 0; job < 16; job++) {
                due("take", x.take(job % 4), job);
                x.finish(job % 4, true);
            }
            PipelineRunner y = withStages(1, 1);
            y.push(0, 0, 0, 0);
            due("the first stage's", y.take(0), 0);
            due("the second stage's", y.take(1), 0);
            due("the highest alone", pushed(withOneLeft(15)).take(3), 15);
        });
        sentence("Promise 22", "NONE if the queue is empty, nothing changes then.", () -> {
            for (int i = 0; i < 4; i++) {
                int worker = i;
                due("no run", withThreeStages().take(worker), PipelineRunner.NONE);
                changesNothing("no run", BoundsTest::withThreeStages, x -> x.take(worker));
                changesNothing("no stage", PipelineRunner::new, x -> x.take(worker));
                if (worker != 2) {
                    due("a job RUNNING", withABusyWorker().take(worker), PipelineRunner.NONE);
                    changesNothing("a job RUNNING", BoundsTest::withABusyWorker, x -> x.take(worker));
                }
            }
            changesNothing("entries", BoundsTest::withEntries, x -> x.take(0));
            PipelineRunner one = pushed(withStages(1));
            due("one in the queue", one.take(0), 0);
            due("none left", one.take(1), PipelineRunner.NONE);
        });
        sentence("Promise 22", NO_WORKER, () -> noWorker((x, worker) -> x.take(worker)));
        sentence("Promise 22", "Throws `IllegalStateException` if it is not free", () -> {
            refused("with an empty queue", BoundsTest::withABusyWorker, STATE, x -> x.take(2));
            refused("with a job in the queue", BoundsTest::withARun, STATE, x -> x.take(1));
            refused("with a job of a CANCELLING run", BoundsTest::withACancellingRun, STATE, x -> x.take(0));
            for (int i = 0; i < 4; i++) {
                int worker = i;
                refused("all busy", BoundsTest::withRunningJobsOnly, STATE, x -> x.take(worker));
            }
        });
    }

    private static void noWorker(IntCall call) {
        outside(0, 3, PipelineRunner::new, INDEX, call);
        outside(0, 3, BoundsTest::withARun, INDEX, call);
        outside(0, 3, BoundsTest::withRunningJobsOnly, INDEX, call);
        outside(0, 3, BoundsTest::withACancellingRun, INDEX, call);
    }

    /** Each free worker of objects with none, one and another busy. */
    private static void freeWorkers(IntCall call) {
        for (int i = 0; i < 4; i++) {
            int worker = i;
            refused("the worker " + worker, PipelineRunner::new, STATE, x -> call.make(x, worker));
            refused("a queue, the worker " + worker, () -> pushed(withThreeStages()), STATE, x -> call.make(x, worker));
            if (worker != 2) {
                refused("2 busy, the worker " + worker, BoundsTest::withABusyWorker, STATE, x -> call.make(x, worker));
            }
        }
        refused("freed by a pass", () -> {
            PipelineRunner x = withABusyWorker();
            x.finish(2, true);
            return x;
        }, STATE, x -> call.make(x, 2));
        refused("freed by a fail that is tried again", () -> {
            PipelineRunner x = withABusyWorker();
            x.finish(2, false);
            return x;
        }, STATE, x -> call.make(x, 2));
        refused("freed by a loss", () -> {
            PipelineRunner x = withABusyWorker();
            x.lose(2);
            return x;
        }, STATE, x -> call.make(x, 2));
        refused("freed by cancel", () -> {
            PipelineRunner x = withABusyWorker();
            x.cancel(0);
            return x;
        }, STATE, x -> call.make(x, 2));
        refused("freed by a push", () -> {
            PipelineRunner x = withABusyWorker();
            x.push(0, 4, 5, 6);
            return x;
        }, STATE, x -> call.make(x, 2));
    }

    private static void finish() {
        sentence("Promise 23", WORKER, () -> {
            numbers(4, BoundsTest::withRunningJobsOnly, (x, worker) -> x.finish(worker, true));
            numbers(4, BoundsTest::withRunningJobsOnly, (x, worker) -> x.finish(worker, false));
        });
        sentence("Promise 23", "- `isPassed`: true if it is passed, false if it failed", () -> {
            due("true", withRunningJobsOnly().finish(0, true), PipelineRunner.PASSED);
            due("false", withRunningJobsOnly().finish(0, false), PipelineRunner.FAILED);
            PipelineRunner x = withABusyWorker();
            x.finish(2, false);
            x.take(2);
            due("false again", x.finish(2, false), PipelineRunner.FAILED);
            PipelineRunner y = withABusyWorker();
            y.finish(2, false);
            y.take(2);
            due("true then", y.finish(2, true), PipelineRunner.PASSED);
        });
        sentence("Promise 23", "Returns the state of the job then: PASSED, FAILED or QUEUED.", () -> {
            due("PASSED", withABusyWorker().finish(2, true), 3);
            PipelineRunner x = withABusyWorker();
            due("QUEUED", x.finish(2, false), 1);
            due("its state", x.jobState(0, 0, 0), 1);
            x.take(2);
            due("FAILED", x.finish(2, false), 4);
            due("its state at last", x.jobState(0, 0, 0), 4);
            due("FAILED in a CANCELLING run", withACancellingRun().finish(0, false), 4);
            due("PASSED in a CANCELLING run", withACancellingRun().finish(0, true), 3);
        });
        sentence("Promise 23", NO_WORKER, () -> {
            noWorker((x, worker) -> x.finish(worker, true));
            noWorker((x, worker) -> x.finish(worker, false));
        });
        sentence("Promise 23", "Throws `IllegalStateException` if it is free", () -> {
            freeWorkers((x, worker) -> x.finish(worker, true));
            freeWorkers((x, worker) -> x.finish(worker, false));
        });
    }

    private static void lose() {
        sentence("Promise 24", WORKER, () -> numbers(4, BoundsTest::withRunningJobsOnly, (x, worker) -> x.lose(worker)));
        sentence("Promise 24", "Returns the state of the job then: QUEUED or CANCELLED.", () -> {
            PipelineRunner x = withABusyWorker();
            due("QUEUED", x.lose(2), 1);
            due("its state", x.jobState(0, 0, 0), 1);
            PipelineRunner y = withACancellingRun();
            due("CANCELLED", y.lose(0), 5);
            due("its state", y.jobState(0, 0, 0), 5);
            PipelineRunner z = withStages(2);
            z.setMarks(0, true, false, true);
            z.push(0, 0, 0, 0);
            z.take(0);
            z.take(1);
            z.finish(0, false);
            due("CANCELLED in a stage that has stopped", z.lose(1), 5);
        });
        sentence("Promise 24", NO_WORKER, () -> noWorker((x, worker) -> x.lose(worker)));
        sentence("Promise 24", "Throws `IllegalStateException` if it is free", () -> freeWorkers((x, worker) -> x.lose(worker)));
    }

    private static void workerRunAndStage() {
        sentence("Promise 25", WORKER, () -> {
            numbers(4, PipelineRunner::new, (x, worker) -> x.workerRun(worker));
            numbers(4, BoundsTest::withRunningJobsOnly, (x, worker) -> x.workerRun(worker));
        });
        sentence("Promise 25", "Returns the run; NONE if it is free.", () -> {
            due("one busy", workerRuns(withABusyWorker()), "-1 -1 0 -1");
            due("all busy", workerRuns(withRunningJobsOnly()), "0 0 0 0");
            PipelineRunner x = withEightyRuns();
            x.take(3);
            due("the highest run", workerRuns(x), "-1 -1 -1 79");
            x.cancel(79);
            due("freed by cancel", workerRuns(x), "-1 -1 -1 -1");
            due("of a CANCELLING run", workerRuns(withACancellingRun()), "0 -1 -1 -1");
        });
        sentence("Promise 25", NO_WORKER, () -> noWorker((x, worker) -> x.workerRun(worker)));
        sentence("Promise 26", WORKER, () -> {
            numbers(4, PipelineRunner::new, (x, worker) -> x.workerStage(worker));
            numbers(4, BoundsTest::withRunningJobsOnly, (x, worker) -> x.workerStage(worker));
        });
        sentence("Promise 26", "Returns the stage; NONE if it is free.", () -> {
            PipelineRunner x = pushed(withEightStages());
            for (int stage = 0; stage < 8; stage++) {
                x.take(stage % 4);
                due("the stage", x.workerStage(stage % 4), stage);
                x.finish(stage % 4, true);
                due("free", x.workerStage(stage % 4), PipelineRunner.NONE);
            }
            due("of a CANCELLING run", withACancellingRun().workerStage(0), 0);
        });
        sentence("Promise 26", NO_WORKER, () -> noWorker((x, worker) -> x.workerStage(worker)));
    }

    // ---- promises 27 to 29

    private static void entries() {
        sentence("Promise 27", "Returns how many cache entries there are.", () -> {
            PipelineRunner x = withStages(1);
            x.setStage(0, 0, 1);
            for (int i = 0; i < 14; i++) {
                due("after so many keys", x.entries(), Math.min(i, 10));
                pushAndPass(x, i, 0, 0);
            }
            x.setStage(0, 0, 0);
            due("when all are dropped", x.entries(), 0);
        });
    }

    private static void entryPlaces(IntCall call) {
        numbers(0, PipelineRunner::new, call);
        numbers(1, () -> {
            PipelineRunner x = withStages(1);
            x.setStage(0, 0, 3);
            pushAndPass(x, 0, 0, 0);
            return x;
        }, call);
        numbers(3, BoundsTest::withEntries, call);
        numbers(10, BoundsTest::withTenEntries, call);
    }

    private static void noEntryPlace(IntCall call) {
        numbers(2, () -> {
            PipelineRunner x = withEntries();
            x.setStage(1, 0, 3);
            return x;
        }, call);
        numbers(10, () -> {
            PipelineRunner x = withTenEntries();
            pushAndPass(x, 10, 0, 0);
            return x;
        }, call);
        numbers(0, () -> {
            PipelineRunner x = withTenEntries();
            x.setStage(0, 0, 0);
            return x;
        }, call);
    }

    private static void entryStage() {
        sentence("Promise 28", "- `place`: 0 for the entry whose latest use is the longest ago", () -> {
            entryPlaces((x, place) -> x.entryStage(place));
            PipelineRunner x = withEntries();
            due("the first", x.entryStage(0), 0);
            due("the last", x.entryStage(2), 2);
            x.push(0, 7, 1, 1);
            x.take(0);
            due("the first when its entry was used", x.entryStage(0), 1);
            due("the last when it was used", x.entryStage(2), 0);
        });
        sentence("Promise 28", "Returns its stage.", () -> {
            PipelineRunner x = withEightStages();
            for (int stage = 0; stage < 8; stage++) {
                x.setStage(stage, 0, 3);
            }
            x.push(0, 0, 0, 0);
            for (int stage = 0; stage < 8; stage++) {
                takeAndFinish(x, true);
                due("the stage", x.entryStage(stage), stage);
            }
        });
        sentence("Promise 28", NO_PLACE, () -> noEntryPlace((x, place) -> x.entryStage(place)));
    }

    private static void entryInput() {
        sentence("Promise 29", "- `place`: 0 for the entry whose latest use is the longest ago", () -> {
            entryPlaces((x, place) -> x.entryInput(place, 0));
            PipelineRunner x = withTenEntries();
            for (int place = 0; place < 10; place++) {
                due("the place " + place, x.entryInput(place, 0), place);
            }
            x.push(0, 0, 9, 9);
            x.take(0);
            due("the first when its entry was used", x.entryInput(0, 0), 1);
            due("the last then", x.entryInput(9, 0), 0);
        });
        sentence("Promise 29", "- `input`: 0 for the first one", () -> {
            for (int i = 0; i < 3; i++) {
                int place = i;
                numbers(3, BoundsTest::withEntries, (x, input) -> x.entryInput(place, input));
            }
            due("the first", withEntries().entryInput(2, 0), 7);
            due("the second", withEntries().entryInput(2, 1), 0);
            due("the third", withEntries().entryInput(2, 2), 99);
        });
        sentence("Promise 29", "Returns the input; NONE if the key has not so many.", () -> {
            due("the length 1", key(withEntries(), 0), "7 -1 -1");
            due("the length 2", key(withEntries(), 1), "7 0 -1");
            due("the length 3", key(withEntries(), 2), "7 0 99");
        });
        sentence("Promise 29", "Throws `IndexOutOfBoundsException` if there is no such place", () -> {
            noEntryPlace((x, place) -> x.entryInput(place, 0));
            noEntryPlace((x, place) -> x.entryInput(place, 2));
        });
        sentence("Promise 29", "or input is not 0 to 2", () -> {
            outside(0, 2, BoundsTest::withEntries, INDEX, (x, input) -> x.entryInput(0, input));
            outside(0, 2, BoundsTest::withTenEntries, INDEX, (x, input) -> x.entryInput(9, input));
            refused("neither is there", BoundsTest::withEntries, INDEX, x -> x.entryInput(3, 3));
            refused("neither is there, at the lowest", BoundsTest::withEntries, INDEX, x -> x.entryInput(LOWEST, LOWEST));
            refused("an input, no entry", PipelineRunner::new, INDEX, x -> x.entryInput(0, 0));
        });
    }

    /** Each line of a promise that tells of an argument, an answer or an exception is quoted by a test above. */
    private static void everyLineIsTested() {
        for (int promise = 1; promise <= 29; promise++) {
            isQuotedWholly("Promise " + promise, "(?!Promise|`).*");
        }
    }
}
