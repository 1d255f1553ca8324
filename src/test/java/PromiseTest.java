import java.util.function.Supplier;

/** Each promise by hand: ordinary inputs, the edges that the document names, and wrong inputs. */
public final class PromiseTest extends Checks {
    public static void main(String[] args) {
        newObject();
        addStage();
        need();
        exclude();
        setStage();
        setStageDropsEntries();
        setMarks();
        stagesAndJobs();
        needs();
        pushStartsRuns();
        pushIsRefused();
        pushLimits();
        cancel();
        cancelWithWorkers();
        states();
        runsKeepTheirStages();
        jobState();
        skipping();
        attempts();
        restored();
        restoredPrefersTheLatest();
        isGood();
        stoppedStages();
        artifacts();
        queue();
        take();
        finishAndRetries();
        finishInCancelledRuns();
        lose();
        workers();
        entries();
        entriesAreDropped();
        entryInput();
        end();
    }

    // ---- the promises

    private static void newObject() {
        PipelineRunner x = new PipelineRunner();
        due("stages of a new object", x.stages(), 0);
        due("runs of a new object", x.runs(), 0);
        due("entries of a new object", x.entries(), 0);
        due("queued of a new object", x.queued(), 0);
        for (int worker = 0; worker < 4; worker++) {
            due("workerRun of a new object", x.workerRun(worker), -1);
            due("workerStage of a new object", x.workerStage(worker), -1);
            due("take of a new object", x.take(worker), -1);
        }
        x.addStage(1, 1);
        due("stages of another new object", new PipelineRunner().stages(), 0);
    }

    private static PipelineRunner withEightStages() {
        return withStages(1, 1, 1, 1, 1, 1, 1, 1);
    }

    private static PipelineRunner withARun() {
        PipelineRunner x = withStages(2, 1);
        x.push(0, 1, 2, 3);
        return x;
    }

    private static void addStage() {
        PipelineRunner x = new PipelineRunner();
        due("the first addStage", x.addStage(4, 4), 0);
        due("jobs of 4 by 4", x.jobs(0), 16);
        due("the second addStage", x.addStage(1, 4), 1);
        due("jobs of 1 by 4", x.jobs(1), 4);
        due("the third addStage", x.addStage(3, 2), 2);
        due("jobs of 3 by 2", x.jobs(2), 6);
        due("the last of 8 stages", withStages(1, 1, 1, 1, 1, 1, 1).addStage(4, 1), 7);
        int[] wrong = {0, 5, -1, Integer.MIN_VALUE, Integer.MAX_VALUE};
        for (int each : wrong) {
            refused("addStage of wrong rows", PromiseTest::withARun, ARGUMENT, y -> y.addStage(each, 1));
            refused("addStage of wrong columns", PromiseTest::withEightStages, ARGUMENT, y -> y.addStage(1, each));
        }
        refused("addStage while a run goes on", PromiseTest::withARun, STATE, y -> y.addStage(1, 1));
        refused("addStage while a run is CANCELLING", PromiseTest::withACancellingRun, STATE, y -> y.addStage(1, 1));
        refused("a ninth addStage", PromiseTest::withEightStages, STATE, y -> y.addStage(1, 1));
        PipelineRunner ended = withARun();
        ended.cancel(0);
        due("addStage when the run has ended", ended.addStage(1, 1), 2);
    }

    /** Two stages; a job of the first, that can't be interrupted, is RUNNING in a cancelled run. */
    private static PipelineRunner withACancellingRun() {
        PipelineRunner x = withStages(2, 1);
        x.setMarks(0, false, false, false);
        x.push(0, 1, 2, 3);
        x.take(0);
        x.cancel(0);
        return x;
    }

    private static PipelineRunner withAChain() {
        PipelineRunner x = withStages(1, 2, 1);
        x.need(1, 0);
        x.need(2, 1);
        return x;
    }

    private static void need() {
        PipelineRunner x = withEightStages();
        due("the first need", x.need(7, 0), 1);
        due("the second need", x.need(7, 1), 2);
        due("a need of another stage", x.need(1, 0), 1);
        due("a need that was there over others", withAChain().need(2, 0), 2);
        for (int other = 2; other < 7; other++) {
            due("one need more", x.need(7, other), other + 1);
        }
        int[] wrong = {3, -1, Integer.MIN_VALUE, Integer.MAX_VALUE, 32};
        for (int each : wrong) {
            refused("need of a wrong stage", PromiseTest::withAChain, INDEX, y -> y.need(each, 0));
            refused("need of a wrong other", PromiseTest::withAChain, INDEX, y -> y.need(0, each));
            refused("need of both wrong", PromiseTest::withAChain, INDEX, y -> y.need(each, each));
            refused("need of a wrong other in a run", PromiseTest::withARun, INDEX, y -> y.need(0, each));
        }
        refused("need while a run goes on", PromiseTest::withARun, STATE, y -> y.need(1, 0));
        refused("need while a run is CANCELLING", PromiseTest::withACancellingRun, STATE, y -> y.need(1, 0));
        refused("need of itself", PromiseTest::withAChain, STATE, y -> y.need(1, 1));
        refused("need of the same again", PromiseTest::withAChain, STATE, y -> y.need(1, 0));
        refused("need that closes a circle directly", PromiseTest::withAChain, STATE, y -> y.need(0, 1));
        refused("need that closes a circle over others", PromiseTest::withAChain, STATE, y -> y.need(0, 2));
        PipelineRunner longest = withEightStages();
        int[] order = {3, 6, 0, 7, 2, 5, 1, 4};
        for (int i = 0; i + 1 < order.length; i++) {
            longest.need(order[i], order[i + 1]);
        }
        due("a need over all stages", longest.needs(3, 4), true);
        due("a need over all stages the other way", longest.needs(4, 3), false);
        due("the shortcut over all stages", longest.need(3, 4), 2);
    }

    private static void exclude() {
        PipelineRunner x = new PipelineRunner();
        x.addStage(2, 3);
        due("the first exclude", x.exclude(0, 1, 0), 5);
        due("the second exclude", x.exclude(0, 0, 2), 4);
        due("jobs after exclude", x.jobs(0), 4);
        x.push(0, 0, 0, 0);
        due("the queue without excluded jobs", x.queued(), 4);
        due("the first job", x.take(0), 0);
        due("the second job", x.take(1), 1);
        due("the job behind the excluded ones", x.take(2), 4);
        due("the last job", x.take(3), 5);
        int[] wrong = {2, -1, 4, Integer.MIN_VALUE, Integer.MAX_VALUE};
        for (int each : wrong) {
            refused("exclude of a wrong row", () -> withMatrix(2, 2), INDEX, y -> y.exclude(0, each, 0));
            refused("exclude of a wrong column", () -> withMatrix(2, 2), INDEX, y -> y.exclude(0, 0, each));
            refused("exclude of a wrong stage", () -> withMatrix(2, 2), INDEX, y -> y.exclude(each, 0, 0));
            refused("exclude of a wrong row in a run", PromiseTest::withARun, INDEX, y -> y.exclude(0, each, 0));
        }
        refused("exclude of a column of a narrow stage", () -> withMatrix(3, 1), INDEX, y -> y.exclude(0, 1, 1));
        refused("exclude while a run goes on", PromiseTest::withARun, STATE, y -> y.exclude(0, 0, 0));
        refused("exclude while a run is CANCELLING", PromiseTest::withACancellingRun, STATE, y -> y.exclude(0, 0, 1));
        refused("exclude of an excluded job", PromiseTest::withAnExcludedJob, STATE, y -> y.exclude(0, 0, 1));
        refused("exclude of the last job", () -> withMatrix(1, 1), STATE, y -> y.exclude(0, 0, 0));
        PipelineRunner down = withMatrix(4, 4);
        for (int i = 0; i < 15; i++) {
            due("jobs left", down.exclude(0, i / 4, i % 4), 15 - i);
        }
        due("the last of sixteen", down.jobs(0), 1);
    }

    private static PipelineRunner withAnExcludedJob() {
        PipelineRunner x = withMatrix(1, 3);
        x.exclude(0, 0, 1);
        return x;
    }

    private static void setStage() {
        PipelineRunner x = withStages(1, 1);
        due("setStage without entries", x.setStage(1, 2, 3), 0);
        due("setStage of the lowest", x.setStage(0, 0, 0), 0);
        int[] wrong = {-1, 2, Integer.MIN_VALUE, Integer.MAX_VALUE};
        for (int each : wrong) {
            refused("setStage of a wrong stage", PromiseTest::withARun, INDEX, y -> y.setStage(each, 3, 4));
        }
        refused("setStage of -1 retries", PromiseTest::withARun, ARGUMENT, y -> y.setStage(0, -1, 0));
        refused("setStage of 3 retries", PromiseTest::withARun, ARGUMENT, y -> y.setStage(0, 3, 0));
        refused("setStage of the length -1", PromiseTest::withARun, ARGUMENT, y -> y.setStage(0, 0, -1));
        refused("setStage of the length 4", PromiseTest::withARun, ARGUMENT, y -> y.setStage(0, 0, 4));
        refused("setStage while a run goes on", PromiseTest::withARun, STATE, y -> y.setStage(0, 1, 1));
        refused("setStage while a run is CANCELLING", PromiseTest::withACancellingRun, STATE, y -> y.setStage(0, 1, 1));
        refused("setStage of wrong retries with entries", PromiseTest::withEntries, ARGUMENT, y -> y.setStage(0, 3, 1));
        PipelineRunner y = withARun();
        try {
            y.setStage(0, 2, 2);
        } catch (IllegalStateException whileARunGoesOn) {
            y.cancel(0);
        }
        y.push(0, 0, 0, 0);
        y.take(0);
        due("the length that was refused", y.restored(1, 0, 0), -1);
        due("the retries that were refused", y.finish(0, false), 4);
    }

    /** Two entries of the stage 0, one of the stage 1. */
    private static PipelineRunner withEntries() {
        PipelineRunner x = withStages(1, 1);
        x.setStage(0, 0, 2);
        x.setStage(1, 0, 3);
        x.push(0, 1, 2, 3);
        takeAndFinish(x, true);
        takeAndFinish(x, true);
        x.push(0, 1, 3, 3);
        takeAndFinish(x, true);
        takeAndFinish(x, false);
        return x;
    }

    private static void setStageDropsEntries() {
        PipelineRunner x = withEntries();
        due("entries", keys(x), "1 2 -1, 1 3 -1, 1 2 3");
        due("setStage of other retries", x.setStage(0, 1, 2), 0);
        due("entries after other retries", keys(x), "1 2 -1, 1 3 -1, 1 2 3");
        due("setStage of another length", x.setStage(0, 1, 1), 2);
        due("entries after another length", keys(x), "1 2 3");
        due("entryStage after another length", x.entryStage(0), 1);
        due("setStage back", x.setStage(0, 1, 2), 0);
        due("setStage of the length 0", x.setStage(1, 0, 0), 1);
        due("entries at the end", x.entries(), 0);
    }

    private static void setMarks() {
        PipelineRunner x = withStages(2);
        x.setMarks(0, true, true, false);
        x.push(0, 0, 0, 0);
        takeAndFinish(x, false);
        due("a stage that stops fast", jobStates(x, 0, 0, 2), "4 5");
        due("a stage that may fail", x.state(0), 9);
        x.push(0, 0, 0, 0);
        x.take(0);
        due("cancel of a stage that can't be interrupted", x.cancel(1), 1);
        due("the run of a stage that can't be interrupted", x.state(1), 8);
        try {
            x.setMarks(0, false, false, true);
            due("setMarks of a CANCELLING run", "nothing thrown", STATE);
        } catch (IllegalStateException thrown) {
            x.finish(0, true);
        }
        x.push(0, 0, 0, 0);
        takeAndFinish(x, false);
        due("the marks that were kept", jobStates(x, 2, 0, 2), "4 5");
        x.setMarks(0, false, false, true);
        x.push(0, 0, 0, 0);
        x.take(0);
        x.take(1);
        x.finish(0, false);
        due("the marks are back", jobStates(x, 3, 0, 2), "4 2");
        due("cancel of a stage that can be interrupted", x.cancel(3), 1);
        due("marks at first", firstMarks(), "4 1 10 2");
        int[] wrong = {-1, 2, Integer.MIN_VALUE, Integer.MAX_VALUE};
        for (int each : wrong) {
            refused("setMarks of a wrong stage", PromiseTest::withARun, INDEX, y -> y.setMarks(each, true, true, true));
        }
        refused("setMarks while a run goes on", PromiseTest::withARun, STATE, y -> y.setMarks(0, true, true, true));
    }

    /** A new stage does not stop fast, may not fail, can be interrupted. */
    private static String firstMarks() {
        PipelineRunner x = withStages(2);
        x.push(0, 0, 0, 0);
        takeAndFinish(x, false);
        String told = jobStates(x, 0, 0, 2);
        takeAndFinish(x, true);
        told += " " + x.state(0);
        x.push(0, 0, 0, 0);
        x.take(0);
        return told + " " + x.cancel(1);
    }

    private static void stagesAndJobs() {
        PipelineRunner x = new PipelineRunner();
        for (int i = 0; i < 8; i++) {
            due("stages so far", x.stages(), i);
            x.addStage(1 + i % 4, 2);
            due("jobs of the new stage", x.jobs(i), (1 + i % 4) * 2);
        }
        due("stages at the most", x.stages(), 8);
        refused("jobs of no stage", PipelineRunner::new, INDEX, y -> y.jobs(0));
        refused("jobs of the stage behind the last", PromiseTest::withAChain, INDEX, y -> y.jobs(3));
        refused("jobs of the stage -1", PromiseTest::withAChain, INDEX, y -> y.jobs(-1));
    }

    private static void needs() {
        PipelineRunner x = withAChain();
        due("needs directly", x.needs(1, 0), true);
        due("needs over others", x.needs(2, 0), true);
        due("needs the other way", x.needs(0, 2), false);
        due("needs itself", x.needs(1, 1), false);
        due("needs in a diamond", withADiamond().needs(3, 0), true);
        due("needs beside it in a diamond", withADiamond().needs(1, 2), false);
        x.push(0, 0, 0, 0);
        due("needs while a run goes on", x.needs(2, 0), true);
        int[] wrong = {-1, 3, Integer.MIN_VALUE, Integer.MAX_VALUE, 32, 33};
        for (int each : wrong) {
            refused("needs of a wrong stage", PromiseTest::withAChain, INDEX, y -> y.needs(each, 0));
            refused("needs of a wrong other", PromiseTest::withAChain, INDEX, y -> y.needs(0, each));
        }
    }

    /** The stage 3 needs 1 and 2, which both need 0. */
    private static PipelineRunner withADiamond() {
        PipelineRunner x = withStages(1, 1, 1, 1);
        x.need(1, 0);
        x.need(2, 0);
        x.need(3, 2);
        x.need(3, 1);
        return x;
    }

    private static void pushStartsRuns() {
        PipelineRunner x = withStages(2, 1, 1);
        x.need(0, 2);
        due("the first push", x.push(3, 99, 0, 99), 0);
        due("the queue of the first run", queueOf(x), "0.1, 0.2");
        due("the stage that waits", jobStates(x, 0, 0, 2), "0 0");
        due("a push to another branch", x.push(2, 0, 99, 0), 1);
        due("the queue of two runs", queueOf(x), "0.1, 0.2, 1.1, 1.2");
        due("the older run of another branch", x.state(0), 7);
        due("a push to the same branch", x.push(3, 0, 0, 0), 2);
        due("the older run of the same branch", x.state(0), 5);
        due("the queue without the older run", queueOf(x), "1.1, 1.2, 2.1, 2.2");
        due("the job taken", x.take(2), 0);
        due("the run it is of", x.workerRun(2), 1);
        x.push(2, 0, 0, 0);
        due("the worker of the cancelled run", x.workerRun(2), -1);
        due("its job", x.jobState(1, 1, 0), 5);
        due("its run", x.state(1), 5);
        due("runs", x.runs(), 4);
    }

    private static void pushIsRefused() {
        refused("push without stages", PipelineRunner::new, STATE, y -> y.push(0, 0, 0, 0));
        int[] wrongBranches = {-1, 4, Integer.MIN_VALUE, Integer.MAX_VALUE};
        for (int each : wrongBranches) {
            refused("push to a wrong branch", PipelineRunner::new, INDEX, y -> y.push(each, -1, 100, 0));
            refused("push to a wrong branch", PromiseTest::withARun, INDEX, y -> y.push(each, 0, 0, 0));
        }
        int[] wrongInputs = {-1, 100, Integer.MIN_VALUE, Integer.MAX_VALUE};
        for (int each : wrongInputs) {
            refused("push of a wrong first input", PromiseTest::withARun, ARGUMENT, y -> y.push(0, each, 0, 0));
            refused("push of a wrong second input", PromiseTest::withARun, ARGUMENT, y -> y.push(0, 0, each, 0));
            refused("push of a wrong third input", PromiseTest::withARun, ARGUMENT, y -> y.push(0, 0, 0, each));
            refused("push of a wrong input without stages", PipelineRunner::new, ARGUMENT, y -> y.push(0, 0, 0, each));
        }
    }

    /** Two runs that are CANCELLING, and one that is GOING on each branch. */
    private static PipelineRunner withSixRunsThatGoOn() {
        PipelineRunner x = withStages(1);
        x.setMarks(0, false, false, false);
        x.push(0, 0, 0, 0);
        x.push(1, 0, 0, 0);
        x.take(0);
        x.take(1);
        for (int branch = 0; branch < 4; branch++) {
            x.push(branch, 0, 0, 0);
        }
        return x;
    }

    private static PipelineRunner withEightyRuns() {
        PipelineRunner x = withStages(1);
        for (int i = 0; i < 79; i++) {
            x.push(i % 3, 0, 0, 0);
        }
        due("the push of the last run", x.push(0, 0, 0, 0), 79);
        return x;
    }

    private static void pushLimits() {
        PipelineRunner x = withSixRunsThatGoOn();
        due("CANCELLING runs", x.state(0) + " " + x.state(1), "8 8");
        due("GOING runs", x.state(2) + " " + x.state(3) + " " + x.state(4) + " " + x.state(5), "7 7 7 7");
        for (int branch = 0; branch < 4; branch++) {
            int pushed = branch;
            refused("push while 6 runs go on", PromiseTest::withSixRunsThatGoOn, STATE, y -> y.push(pushed, 0, 0, 0));
        }
        x.finish(0, true);
        due("push when 5 runs go on", x.push(3, 0, 0, 0), 6);
        due("the run that it cancels", x.state(5), 5);
        refused("push while there are 80 runs", PromiseTest::withEightyRuns, STATE, y -> y.push(0, 0, 0, 0));
        refused("a wrong input while there are 80 runs", PromiseTest::withEightyRuns, ARGUMENT, y -> y.push(0, 0, 0, -1));
        refused("a wrong branch while there are 80 runs", PromiseTest::withEightyRuns, INDEX, y -> y.push(4, 0, 0, -1));
        PipelineRunner full = withEightyRuns();
        due("the first of 80 runs", full.state(0), 5);
        due("the last of 80 runs", full.state(79), 7);
        due("runs at the most", full.runs(), 80);
    }

    private static void cancel() {
        PipelineRunner x = withStages(2, 3);
        x.need(1, 0);
        x.push(0, 0, 0, 0);
        x.push(1, 0, 0, 0);
        takeAndFinish(x, true);
        due("cancel of WAITING and QUEUED jobs", x.cancel(0), 4);
        due("what was PASSED and QUEUED", jobStates(x, 0, 0, 2), "3 5");
        due("what was WAITING", jobStates(x, 0, 1, 3), "5 5 5");
        due("the queue after cancel", queueOf(x), "1.0, 1.0");
        due("the state after cancel", x.state(0), 5);
        due("the other run after cancel", x.state(1), 7);
        int[] wrong = {-1, 1, Integer.MIN_VALUE, Integer.MAX_VALUE};
        for (int each : wrong) {
            refused("cancel of no run", PromiseTest::withARun, INDEX, y -> y.cancel(each));
        }
        refused("cancel of a CANCELLING run", PromiseTest::withACancellingRun, STATE, y -> y.cancel(0));
        refused("cancel of a CANCELLED run", () -> withARunOfState(5), STATE, y -> y.cancel(0));
        refused("cancel of a GOOD run", () -> withARunOfState(9), STATE, y -> y.cancel(0));
        refused("cancel of a BAD run", () -> withARunOfState(10), STATE, y -> y.cancel(0));
    }

    private static PipelineRunner withARunOfState(int state) {
        PipelineRunner x = withStages(1);
        x.push(0, 0, 0, 0);
        if (state == PipelineRunner.CANCELLED) {
            x.cancel(0);
        } else {
            takeAndFinish(x, state == PipelineRunner.GOOD);
        }
        due("the state that was wanted", x.state(0), state);
        return x;
    }

    private static void cancelWithWorkers() {
        PipelineRunner x = withStages(2, 2);
        x.setMarks(1, false, false, false);
        x.push(0, 0, 0, 0);
        x.push(1, 0, 0, 0);
        for (int worker = 0; worker < 4; worker++) {
            x.take(worker);
        }
        due("cancel of RUNNING jobs", x.cancel(0), 2);
        due("jobs that can be interrupted", jobStates(x, 0, 0, 2), "5 5");
        due("jobs that can't be", jobStates(x, 0, 1, 2), "2 2");
        due("workers that are free", x.workerRun(0) + " " + x.workerRun(1), "-1 -1");
        due("workers that are not", x.workerRun(2) + " " + x.workerRun(3), "0 0");
        due("the state while they run", x.state(0), 8);
        due("a free worker takes", x.take(0), 0);
        due("of the other run", x.workerRun(0), 1);
        x.finish(2, true);
        due("the state while one runs", x.state(0), 8);
        due("lose of the last", x.lose(3), 5);
        due("the state when none runs", x.state(0), 5);
        due("the job of the other run", x.jobState(1, 0, 0), 2);
    }

    private static void states() {
        PipelineRunner x = withStages(1, 1);
        due("runs at first", x.runs(), 0);
        x.push(0, 0, 0, 0);
        due("runs after a push", x.runs(), 1);
        due("GOING", x.state(0), 7);
        takeAndFinish(x, true);
        due("GOING with one stage over", x.state(0), 7);
        takeAndFinish(x, true);
        due("GOOD", x.state(0), 9);
        x.push(0, 0, 0, 0);
        takeAndFinish(x, false);
        due("GOING with a bad stage", x.state(1), 7);
        takeAndFinish(x, true);
        due("BAD", x.state(1), 10);
        due("runs after two", x.runs(), 2);
        int[] wrong = {-1, 1, Integer.MIN_VALUE, Integer.MAX_VALUE};
        for (int each : wrong) {
            refused("state of no run", PromiseTest::withARun, INDEX, y -> y.state(each));
        }
        refused("state without runs", PipelineRunner::new, INDEX, y -> y.state(0));
    }

    /** A run that has ended, stages written anew, and a run that goes on. */
    private static PipelineRunner withChangedStages() {
        PipelineRunner x = withStages(1, 2);
        x.setMarks(1, false, true, true);
        x.push(0, 0, 0, 0);
        takeAndFinish(x, true);
        takeAndFinish(x, true);
        takeAndFinish(x, false);
        x.setMarks(1, false, false, true);
        x.exclude(1, 0, 0);
        x.need(1, 0);
        x.addStage(1, 1);
        x.setStage(1, 0, 3);
        x.push(0, 0, 0, 0);
        takeAndFinish(x, true);
        return x;
    }

    private static void runsKeepTheirStages() {
        PipelineRunner x = withChangedStages();
        due("a stage that might fail then", x.isGood(0, 1), true);
        due("a job that was not excluded then", x.jobState(0, 1, 0), 3);
        due("a need that was not there then", x.artifacts(0, 1), 0);
        due("its state", x.state(0), 9);
        due("a need that is there now", x.artifacts(1, 1), 1);
        due("a stage that is there now", x.jobState(1, 2, 0), 1);
        Supplier<PipelineRunner> made = PromiseTest::withChangedStages;
        refused("a stage that was not there then", made, INDEX, y -> y.jobState(0, 2, 0));
        refused("isGood of a stage that was not there then", made, INDEX, y -> y.isGood(0, 2));
        refused("artifacts of a stage that was not there then", made, INDEX, y -> y.artifacts(0, 2));
        refused("attempts of a stage that was not there then", made, INDEX, y -> y.attempts(0, 2, 0));
        refused("restored of a stage that was not there then", made, INDEX, y -> y.restored(0, 2, 0));
        refused("a job that is excluded now", made, INDEX, y -> y.jobState(1, 1, 0));
    }

    private static void jobState() {
        PipelineRunner x = withStages(2, 1);
        x.need(1, 0);
        x.push(0, 0, 0, 0);
        due("QUEUED and WAITING", jobStates(x, 0, 0, 2) + " " + jobStates(x, 0, 1, 1), "1 1 0");
        x.take(0);
        due("RUNNING", jobStates(x, 0, 0, 2), "2 1");
        x.finish(0, true);
        takeAndFinish(x, false);
        due("PASSED, FAILED and SKIPPED", jobStates(x, 0, 0, 2) + " " + jobStates(x, 0, 1, 1), "3 4 6");
        refusedForWrongJobs("jobState", (y, at) -> y.jobState(at[0], at[1], at[2]));
        refusedForWrongJobs("attempts", (y, at) -> y.attempts(at[0], at[1], at[2]));
        refusedForWrongJobs("restored", (y, at) -> y.restored(at[0], at[1], at[2]));
    }

    private interface JobCall {
        void make(PipelineRunner runner, int[] at);
    }

    private static void refusedForWrongJobs(String name, JobCall call) {
        Supplier<PipelineRunner> made = () -> {
            PipelineRunner x = withStages(4, 3);
            x.exclude(1, 0, 1);
            x.push(0, 0, 0, 0);
            return x;
        };
        int[][] wrong = {{-1, 0, 0}, {1, 0, 0}, {0, -1, 0}, {0, 2, 0}, {0, 0, -1}, {0, 0, 4}, {0, 0, 16}, {0, 1, 1},
            {0, 1, 3}, {Integer.MIN_VALUE, 0, 0}, {Integer.MAX_VALUE, 0, 0}, {0, Integer.MIN_VALUE, 0},
            {0, Integer.MAX_VALUE, 0}, {0, 0, Integer.MIN_VALUE}, {0, 0, Integer.MAX_VALUE}, {0, 0, 32}};
        for (int[] at : wrong) {
            refused(name + " of " + at[0] + ", " + at[1] + ", " + at[2], made, INDEX, y -> call.make(y, at));
        }
        call.make(made.get(), new int[] {0, 1, 2});
    }

    private static void skipping() {
        PipelineRunner x = withStages(1, 1, 1, 2);
        x.need(0, 3);
        x.need(1, 0);
        x.push(0, 0, 0, 0);
        takeAndFinish(x, true);
        due("what is not behind the failed stage", queueOf(x), "0.3, 0.3");
        takeAndFinish(x, false);
        due("stages behind one that is not over", jobStates(x, 0, 0, 1) + " " + jobStates(x, 0, 1, 1), "0 0");
        takeAndFinish(x, true);
        due("stages behind the failed one", jobStates(x, 0, 0, 1) + " " + jobStates(x, 0, 1, 1), "6 6");
        due("the run", x.state(0), 10);
        PipelineRunner both = withADiamond();
        both.push(0, 0, 0, 0);
        takeAndFinish(both, true);
        due("both middle stages", queueOf(both), "0.1, 0.2");
        takeAndFinish(both, false);
        due("the last waits for the other", both.jobState(0, 3, 0), 0);
        takeAndFinish(both, true);
        due("the last is skipped", both.jobState(0, 3, 0), 6);
        PipelineRunner order = withStages(1, 1, 1);
        order.need(0, 2);
        order.need(1, 2);
        order.push(0, 0, 0, 0);
        takeAndFinish(order, true);
        due("the lower stage joins first", queueOf(order), "0.0, 0.1");
        PipelineRunner free = withStages(1, 1);
        free.setMarks(0, false, true, true);
        free.need(1, 0);
        free.push(0, 0, 0, 0);
        takeAndFinish(free, false);
        due("the stage behind one that may fail", free.jobState(0, 1, 0), 1);
    }

    private static void attempts() {
        PipelineRunner x = withStages(1);
        x.setStage(0, 2, 0);
        x.push(0, 0, 0, 0);
        due("attempts at first", x.attempts(0, 0, 0), 0);
        x.take(0);
        due("attempts when taken", x.attempts(0, 0, 0), 1);
        x.finish(0, false);
        due("attempts when failed", x.attempts(0, 0, 0), 1);
        x.take(1);
        x.lose(1);
        x.take(1);
        due("attempts after fail and loss", x.attempts(0, 0, 0), 3);
        x.finish(1, true);
        due("attempts at the end", x.attempts(0, 0, 0), 3);
    }

    private static void restored() {
        PipelineRunner x = withStages(1, 1);
        x.setStage(0, 0, 3);
        x.push(0, 1, 2, 3);
        due("restored when not taken", x.restored(0, 0, 0), -1);
        x.take(0);
        due("restored without entries", x.restored(0, 0, 0), 0);
        x.take(1);
        due("restored with a key of the length 0", x.restored(0, 1, 0), -1);
        x.finish(0, true);
        x.finish(1, true);
        due("entries of keys of the length 0", x.entries(), 1);
        int[][] pushes = {{1, 2, 3, 3}, {1, 2, 4, 2}, {1, 3, 3, 1}, {2, 2, 3, 0}};
        for (int i = 0; i < pushes.length; i++) {
            int[] each = pushes[i];
            x.push(0, each[0], each[1], each[2]);
            x.take(0);
            due("inputs in common", x.restored(1 + i, 0, 0), each[3]);
            x.finish(0, false);
            takeAndFinish(x, false);
        }
        PipelineRunner again = withStages(2);
        again.setStage(0, 0, 1);
        again.push(0, 7, 0, 0);
        again.take(0);
        again.take(1);
        due("restored before there is an entry", again.restored(0, 0, 0), 0);
        again.finish(1, true);
        again.lose(0);
        again.take(0);
        due("restored when taken the latest time", again.restored(0, 0, 0), 1);
        PipelineRunner other = withStages(1, 1);
        other.setStage(0, 0, 3);
        other.setStage(1, 0, 3);
        other.push(0, 1, 1, 1);
        takeAndFinish(other, true);
        other.take(0);
        due("restored of an entry of another stage", other.restored(0, 1, 0), 0);
    }

    private static void restoredPrefersTheLatest() {
        PipelineRunner x = withStages(1);
        x.setStage(0, 0, 3);
        pushAndPass(x, 1, 1, 1);
        pushAndPass(x, 1, 1, 2);
        pushAndPass(x, 1, 2, 2);
        due("the entry used when 1 1 2 came", keys(x), "1 1 1, 1 1 2, 1 2 2");
        x.push(0, 1, 1, 9);
        x.take(0);
        due("the latest of the nearest is used", keys(x), "1 1 1, 1 2 2, 1 1 2");
        due("what it restored", x.restored(3, 0, 0), 2);
        x.finish(0, false);
        x.push(0, 1, 1, 1);
        x.take(0);
        due("the same key before later ones", keys(x), "1 2 2, 1 1 2, 1 1 1");
        due("what the same key restored", x.restored(4, 0, 0), 3);
        x.finish(0, false);
        x.push(0, 5, 1, 1);
        x.take(0);
        due("no entry is used", keys(x), "1 2 2, 1 1 2, 1 1 1");
        due("what no entry restored", x.restored(5, 0, 0), 0);
    }

    private static void isGood() {
        PipelineRunner x = withStages(2);
        x.push(0, 0, 0, 0);
        due("isGood at first", x.isGood(0, 0), false);
        takeAndFinish(x, true);
        due("isGood when not over", x.isGood(0, 0), false);
        takeAndFinish(x, true);
        due("isGood when passed", x.isGood(0, 0), true);
        x.push(0, 0, 0, 0);
        takeAndFinish(x, true);
        takeAndFinish(x, false);
        due("isGood when one failed", x.isGood(1, 0), false);
        x.setMarks(0, false, true, true);
        x.push(0, 0, 0, 0);
        takeAndFinish(x, false);
        due("isGood of one that may fail when not over", x.isGood(2, 0), false);
        takeAndFinish(x, false);
        due("isGood of one that may fail", x.isGood(2, 0), true);
        x.push(0, 0, 0, 0);
        takeAndFinish(x, false);
        x.cancel(3);
        due("isGood of one that may fail, cancelled with its run", x.isGood(3, 0), false);
        PipelineRunner y = withStages(1);
        y.setMarks(0, false, false, false);
        y.push(0, 0, 0, 0);
        y.take(0);
        y.cancel(0);
        y.finish(0, true);
        due("isGood in a cancelled run", y.isGood(0, 0), true);
        PipelineRunner skipped = withStages(1, 1);
        skipped.setMarks(1, false, true, true);
        skipped.need(1, 0);
        skipped.push(0, 0, 0, 0);
        takeAndFinish(skipped, false);
        due("isGood of a skipped stage that may fail", skipped.isGood(0, 1), false);
        due("the run of a skipped stage", skipped.state(0), 10);
        int[][] wrong = {{-1, 0}, {1, 0}, {0, -1}, {0, 2}, {Integer.MAX_VALUE, 0}, {0, Integer.MIN_VALUE}};
        for (int[] at : wrong) {
            refused("isGood of no stage", PromiseTest::withARun, INDEX, z -> z.isGood(at[0], at[1]));
            refused("artifacts of no stage", PromiseTest::withARun, INDEX, z -> z.artifacts(at[0], at[1]));
        }
    }

    private static void stoppedStages() {
        PipelineRunner x = withStages(4, 1);
        x.setStage(0, 2, 0);
        x.setMarks(0, true, true, false);
        x.need(1, 0);
        x.push(0, 0, 0, 0);
        for (int fails = 0; fails < 3; fails++) {
            due("the first job again", x.take(0), 0);
            due("its state", x.finish(0, false), fails < 2 ? 1 : 4);
            for (int worker = 1; worker < 4 && fails == 0; worker++) {
                x.take(worker);
            }
        }
        due("the stage that has stopped", jobStates(x, 0, 0, 4), "4 2 2 2");
        due("a fail in it is not tried again", x.finish(1, false), 4);
        due("a loss in it", x.lose(2), 5);
        due("the stage behind it waits", x.jobState(0, 1, 0), 0);
        due("a pass in it", x.finish(3, true), 3);
        due("the jobs of the stage", jobStates(x, 0, 0, 4), "4 4 5 3");
        due("it is good, as it may fail", x.isGood(0, 0), true);
        due("the stage behind it is queued", x.jobState(0, 1, 0), 1);
        PipelineRunner y = withStages(4, 2);
        y.setMarks(0, true, true, false);
        y.push(1, 0, 0, 0);
        y.push(0, 0, 0, 0);
        y.take(0);
        y.take(1);
        y.finish(0, false);
        due("only QUEUED jobs of this stage of this run", queueOf(y), "0.1, 0.1, 1.0, 1.0, 1.0, 1.0, 1.1, 1.1");
        due("the jobs of the stopped stage", jobStates(y, 0, 0, 4), "4 2 5 5");
        due("cancel does not count those", y.cancel(0), 2);
        due("lose in a cancelled run", y.lose(1), 5);
        due("cancelled with the run, not by the stage", y.isGood(0, 0), false);
        PipelineRunner again = withStages(3);
        again.setMarks(0, true, false, true);
        again.push(0, 0, 0, 0);
        again.take(0);
        again.take(1);
        again.lose(0);
        again.finish(1, false);
        due("lower jobs and higher ones become CANCELLED", jobStates(again, 0, 0, 3), "5 4 5");
        PipelineRunner z = withStages(3);
        z.setMarks(0, true, false, true);
        z.push(0, 0, 0, 0);
        takeAndFinish(z, false);
        due("a stopped stage that may not fail", z.isGood(0, 0) + " " + z.state(0), "false 10");
    }

    private static void artifacts() {
        PipelineRunner x = withStages(2, 3, 1, 1);
        x.need(2, 0);
        x.need(2, 1);
        x.need(3, 2);
        x.setMarks(0, false, true, true);
        x.push(0, 0, 0, 0);
        due("artifacts at first", x.artifacts(0, 2), 0);
        takeAndFinish(x, true);
        due("artifacts as they are now", x.artifacts(0, 2), 1);
        takeAndFinish(x, false);
        due("artifacts without failed jobs", x.artifacts(0, 2), 1);
        for (int i = 0; i < 3; i++) {
            takeAndFinish(x, true);
        }
        due("artifacts of two stages", x.artifacts(0, 2), 4);
        due("artifacts of direct needs alone", x.artifacts(0, 3), 0);
        due("artifacts without needs", x.artifacts(0, 0), 0);
        takeAndFinish(x, true);
        due("artifacts of the last", x.artifacts(0, 3), 1);
    }

    private static void queue() {
        PipelineRunner x = withStages(2, 1);
        x.setStage(0, 1, 0);
        due("an empty queue", x.queued(), 0);
        x.push(0, 0, 0, 0);
        x.push(1, 0, 0, 0);
        due("the length", x.queued(), 6);
        due("the queue", queueOf(x), "0.0, 0.0, 0.1, 1.0, 1.0, 1.1");
        takeAndFinish(x, false);
        due("a job that is tried again joins at the end", queueOf(x), "0.0, 0.1, 1.0, 1.0, 1.1, 0.0");
        x.take(3);
        x.lose(3);
        due("a lost job joins at the end", queueOf(x), "0.1, 1.0, 1.0, 1.1, 0.0, 0.0");
        x.cancel(0);
        due("the queue after cancel", queueOf(x), "1.0, 1.0, 1.1");
        int[] wrong = {-1, 3, 6, Integer.MIN_VALUE, Integer.MAX_VALUE};
        for (int each : wrong) {
            refused("queuedRun of no place", PromiseTest::withARun, INDEX, y -> y.queuedRun(each));
            refused("queuedStage of no place", PromiseTest::withARun, INDEX, y -> y.queuedStage(each));
        }
        refused("queuedRun of an empty queue", PipelineRunner::new, INDEX, y -> y.queuedRun(0));
        refused("queuedStage of an empty queue", PipelineRunner::new, INDEX, y -> y.queuedStage(0));
        PipelineRunner full = new PipelineRunner();
        for (int i = 0; i < 8; i++) {
            full.addStage(4, 4);
        }
        for (int branch = 0; branch < 4; branch++) {
            full.push(branch, 0, 0, 0);
        }
        due("the longest queue", full.queued(), 512);
        due("its last job", full.queuedRun(511) + "." + full.queuedStage(511), "3.7");
    }

    /** One job, that the worker 2 has. */
    private static PipelineRunner withABusyWorker() {
        PipelineRunner x = withStages(1);
        x.push(0, 0, 0, 0);
        x.take(2);
        return x;
    }

    private static void take() {
        PipelineRunner x = withStages(3);
        x.exclude(0, 0, 0);
        x.push(0, 0, 0, 0);
        due("take of the first", x.take(3), 1);
        due("take of the second", x.take(0), 2);
        due("take of an empty queue", x.take(1), -1);
        due("the worker that took nothing", x.workerRun(1), -1);
        due("the jobs taken", x.jobState(0, 0, 1) + " " + x.jobState(0, 0, 2), "2 2");
        int[] wrong = {-1, 4, Integer.MIN_VALUE, Integer.MAX_VALUE};
        for (int each : wrong) {
            refused("take of no worker", PromiseTest::withARun, INDEX, y -> y.take(each));
            refused("finish of no worker", PromiseTest::withABusyWorker, INDEX, y -> y.finish(each, true));
            refused("lose of no worker", PromiseTest::withABusyWorker, INDEX, y -> y.lose(each));
            refused("workerRun of no worker", PromiseTest::withABusyWorker, INDEX, y -> y.workerRun(each));
            refused("workerStage of no worker", PromiseTest::withABusyWorker, INDEX, y -> y.workerStage(each));
        }
        refused("take of a busy worker", PromiseTest::withABusyWorker, STATE, y -> y.take(2));
        refused("finish of a free worker", PromiseTest::withABusyWorker, STATE, y -> y.finish(1, true));
        refused("a failed finish of a free worker", PromiseTest::withABusyWorker, STATE, y -> y.finish(1, false));
        refused("lose of a free worker", PromiseTest::withABusyWorker, STATE, y -> y.lose(1));
    }

    private static void finishAndRetries() {
        for (int retries = 0; retries <= 2; retries++) {
            PipelineRunner x = withStages(1);
            x.setStage(0, retries, 0);
            x.push(0, 0, 0, 0);
            for (int fails = 0; fails < retries; fails++) {
                x.take(1);
                due("a fail that is tried again", x.finish(1, false), 1);
                due("the worker is free", x.workerRun(1), -1);
                x.take(0);
                due("a loss is not a fail", x.lose(0), 1);
            }
            x.take(1);
            due("the last fail", x.finish(1, false), 4);
            due("the queue after the last fail", x.queued(), 0);
            due("the run after the last fail", x.state(0), 10);
        }
        PipelineRunner y = withStages(2);
        y.setStage(0, 1, 0);
        y.push(0, 0, 0, 0);
        y.take(0);
        y.take(1);
        due("a fail of one job", y.finish(0, false), 1);
        due("a fail of the other job", y.finish(1, false), 1);
        y.take(0);
        due("a pass after a fail", y.finish(0, true), 3);
        y.take(0);
        due("the second fail", y.finish(0, false), 4);
        due("the states", jobStates(y, 0, 0, 2), "3 4");
        due("the worker at the end", y.workerRun(0), -1);
    }

    private static void finishInCancelledRuns() {
        PipelineRunner x = withStages(3);
        x.setStage(0, 2, 2);
        x.setMarks(0, false, false, false);
        x.push(0, 1, 2, 3);
        for (int worker = 0; worker < 3; worker++) {
            x.take(worker);
        }
        due("cancel of nothing", x.cancel(0), 0);
        due("a fail is not tried again", x.finish(0, false), 4);
        due("a loss is not queued again", x.lose(1), 5);
        due("the run goes on", x.state(0), 8);
        due("a pass", x.finish(2, true), 3);
        due("an entry is made all the same", keys(x), "1 2 -1");
        due("the run is CANCELLED", x.state(0), 5);
        due("the queue is empty", x.queued(), 0);
    }

    private static void lose() {
        PipelineRunner x = withStages(2);
        x.push(0, 0, 0, 0);
        x.take(0);
        x.take(1);
        due("lose", x.lose(1), 1);
        due("the worker is free", x.workerStage(1), -1);
        due("the job is queued", jobStates(x, 0, 0, 2), "2 1");
        due("taken again", x.take(1), 1);
        PipelineRunner y = withStages(3, 1);
        y.setMarks(0, true, true, true);
        y.need(1, 0);
        y.push(0, 0, 0, 0);
        y.take(0);
        y.take(1);
        y.finish(1, false);
        due("lose in a stopped stage", y.lose(0), 5);
        due("it is good, cancelled by its stage", y.isGood(0, 0), true);
        due("the next stage is queued by that", queueOf(y), "0.1");
        takeAndFinish(y, true);
        due("the run is good", y.state(0), 9);
        PipelineRunner z = withStages(2);
        z.setMarks(0, true, false, true);
        z.push(0, 0, 0, 0);
        z.take(0);
        z.take(1);
        z.finish(1, false);
        due("lose of the last", z.lose(0), 5);
        due("the run is bad by that", z.state(0), 10);
    }

    private static void workers() {
        PipelineRunner x = withStages(1, 1);
        x.push(2, 0, 0, 0);
        x.push(3, 0, 0, 0);
        for (int worker = 3; worker >= 0; worker--) {
            x.take(worker);
        }
        due("the runs of workers", x.workerRun(3) + " " + x.workerRun(2) + " " + x.workerRun(1) + " " + x.workerRun(0),
                "0 0 1 1");
        due("their stages", x.workerStage(3) + " " + x.workerStage(2) + " " + x.workerStage(1) + " "
                + x.workerStage(0), "0 1 0 1");
        x.finish(2, true);
        due("a worker that has finished", x.workerRun(2) + " " + x.workerStage(2), "-1 -1");
        due("a worker that has not", x.workerRun(3) + " " + x.workerStage(3), "0 0");
    }

    private static void entries() {
        PipelineRunner x = withStages(2);
        x.setStage(0, 0, 2);
        x.push(0, 1, 2, 3);
        x.take(0);
        x.take(1);
        due("entries when taken", x.entries(), 0);
        x.finish(0, true);
        due("entries when passed", x.entries(), 1);
        x.finish(1, true);
        due("entries when passed with the same key", x.entries(), 1);
        x.push(0, 1, 3, 3);
        takeAndFinish(x, false);
        due("entries when failed", x.entries(), 1);
        takeAndFinish(x, true);
        due("entries of another key", keys(x), "1 2 -1, 1 3 -1");
        x.push(0, 1, 2, 3);
        x.take(0);
        x.take(1);
        x.push(1, 1, 3, 3);
        x.take(2);
        due("the entries in the order of their uses", keys(x), "1 2 -1, 1 3 -1");
        x.finish(0, true);
        due("a pass with a key that there is uses nothing", keys(x), "1 2 -1, 1 3 -1");
        refused("entryStage of no place", PromiseTest::withEntries, INDEX, y -> y.entryStage(3));
        refused("entryStage of the place -1", PromiseTest::withEntries, INDEX, y -> y.entryStage(-1));
        refused("entryStage of no entries", PipelineRunner::new, INDEX, y -> y.entryStage(0));
        PipelineRunner z = withEntries();
        due("the stages of entries", z.entryStage(0) + " " + z.entryStage(1) + " " + z.entryStage(2), "0 0 1");
    }

    private static void entriesAreDropped() {
        PipelineRunner x = withStages(1);
        x.setStage(0, 0, 1);
        for (int i = 0; i < 10; i++) {
            pushAndPass(x, i, 0, 0);
        }
        due("entries at the most", x.entries(), 10);
        pushAndPass(x, 0, 0, 0);
        due("the oldest after a use of 0", x.entryInput(0, 0) + " " + x.entryInput(9, 0), "1 0");
        pushAndPass(x, 10, 0, 0);
        due("entries still", x.entries(), 10);
        due("the oldest when 1 was dropped", x.entryInput(0, 0) + " " + x.entryInput(8, 0) + " " + x.entryInput(9, 0),
                "2 0 10");
        x.push(0, 1, 0, 0);
        x.take(0);
        due("what was dropped is not found", x.restored(12, 0, 0), 0);
        x.finish(0, false);
        due("a fail drops nothing", x.entryInput(0, 0), 2);
    }

    private static void entryInput() {
        PipelineRunner x = withStages(1, 1, 1);
        for (int stage = 0; stage < 3; stage++) {
            x.setStage(stage, 0, stage + 1);
        }
        x.push(0, 7, 0, 99);
        for (int stage = 0; stage < 3; stage++) {
            takeAndFinish(x, true);
        }
        due("keys of all lengths", keys(x), "7 -1 -1, 7 0 -1, 7 0 99");
        int[] wrong = {-1, 3, Integer.MIN_VALUE, Integer.MAX_VALUE};
        for (int each : wrong) {
            refused("entryInput of no input", PromiseTest::withEntries, INDEX, y -> y.entryInput(0, each));
            refused("entryInput of no place", PromiseTest::withEntries, INDEX, y -> y.entryInput(each, 0));
        }
        refused("entryInput of no entries", PipelineRunner::new, INDEX, y -> y.entryInput(0, 0));
    }
}
