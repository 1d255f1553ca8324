import java.util.function.Consumer;
import java.util.function.Supplier;

/**
 * The section "Terms" of the document, sentence by sentence, each with a test of its own: at its
 * bounds, just inside and just outside, with nothing and with as much as there can be.
 */
public final class TermsTest extends Checks {
    private static final String TERMS = "Terms";
    private static final int WAITING = PipelineRunner.WAITING;
    private static final int QUEUED = PipelineRunner.QUEUED;
    private static final int PASSED = PipelineRunner.PASSED;
    private static final int FAILED = PipelineRunner.FAILED;
    private static final int CANCELLED = PipelineRunner.CANCELLED;
    private static final int SKIPPED = PipelineRunner.SKIPPED;
    private static final int GOING = PipelineRunner.GOING;
    private static final int CANCELLING = PipelineRunner.CANCELLING;
    private static final int GOOD = PipelineRunner.GOOD;
    private static final int BAD = PipelineRunner.BAD;
    private static final int NONE = PipelineRunner.NONE;

    public static void main(String[] args) {
        stages();
        needs();
        settings();
        runs();
        overAndGood();
        howARunGoesOn();
        queue();
        workers();
        failedJobs();
        lostJobs();
        cancelling();
        cacheKeys();
        cacheLookups();
        cacheEntries();
        exceptions();
        everySentenceIsTested();
        end();
    }

    // ---- objects

    private static PipelineRunner withEightStages() {
        return withStages(1, 1, 1, 1, 1, 1, 1, 1);
    }

    private static PipelineRunner withMarks(boolean stopsFast, boolean mayFail, boolean isInterruptible, int... jobs) {
        PipelineRunner x = withStages(jobs);
        x.setMarks(0, stopsFast, mayFail, isInterruptible);
        return x;
    }

    private static PipelineRunner pushed(PipelineRunner x) {
        x.push(0, 1, 2, 3);
        return x;
    }

    /** A pushed run of two jobs, neither of which can be interrupted; both are RUNNING when it is cancelled. */
    private static PipelineRunner withTwoRunningInACancelledRun() {
        PipelineRunner x = pushed(withMarks(true, true, false, 2, 1));
        x.take(0);
        x.take(1);
        x.cancel(0);
        return x;
    }

    /** Each stage but the first needs the one before. */
    private static void needInARow(PipelineRunner x) {
        for (int i = 1; i < x.stages(); i++) {
            x.need(i, i - 1);
        }
    }

    private static void takeAndFinishAll(PipelineRunner x, boolean isPassed) {
        for (int i = 0; i < 128 && x.take(0) != NONE; i++) {
            x.finish(0, isPassed);
        }
    }

    /** The states of the first jobs of all stages of a run. */
    private static String firstJobs(PipelineRunner x, int run, int stages) {
        StringBuilder told = new StringBuilder();
        for (int i = 0; i < stages; i++) {
            told.append(i == 0 ? "" : " ").append(x.jobState(run, i, 0));
        }
        return told.toString();
    }

    private static String times(int count, String each) {
        return (each + " ").repeat(count).trim();
    }

    // ---- stages

    private static void stages() {
        sentence(TERMS, "There are at most 8 stages", () -> {
            refused("a ninth", TermsTest::withEightStages, STATE, x -> x.addStage(1, 1));
            PipelineRunner x = withEightStages();
            due("the eighth can be used", x.need(7, 6), 1);
            due("a run has all eight", pushed(x).jobState(0, 7, 0), WAITING);
        });
        sentence(TERMS, "numbered from 0 in the order in which they are added", () -> {
            PipelineRunner x = new PipelineRunner();
            for (int i = 0; i < 8; i++) {
                due("addStage", x.addStage(1 + i % 4, 1 + i / 4), i);
            }
            for (int i = 0; i < 8; i++) {
                due("the jobs of the stage " + i, x.jobs(i), (1 + i % 4) * (1 + i / 4));
            }
        });
        sentence(TERMS, "A stage has a matrix of rows and columns, 1 to 4 each", () -> {
            for (int rows = -1; rows <= 6; rows++) {
                for (int columns = -1; columns <= 6; columns++) {
                    matrix(rows, columns);
                }
            }
        });
        sentence(TERMS, "the job of the row a and the column b has the number a * columns + b", () -> {
            for (int cell = 0; cell < 16 * 16; cell++) {
                cell(1 + cell / 64, 1 + cell / 16 % 4, cell / 4 % 4, cell % 4);
            }
        });
        sentence(TERMS, "Jobs can be excluded; a stage always has at least one job that is not.", () -> {
            for (int rows = 1; rows <= 4; rows++) {
                for (int columns = 1; columns <= 4; columns++) {
                    for (int last = 0; last < rows * columns; last++) {
                        oneIsLeft(rows, columns, last);
                    }
                }
            }
        });
        sentence(TERMS, "(Wherever jobs are spoken of, excluded ones are not meant.)", () -> {
            PipelineRunner x = withMatrix(2, 2);
            x.addStage(1, 1);
            x.need(1, 0);
            x.exclude(0, 0, 0);
            x.exclude(0, 1, 0);
            due("jobs", x.jobs(0), 2);
            x.push(0, 0, 0, 0);
            due("the queue", x.queued(), 2);
            due("the first", x.take(0), 1);
            due("the second", x.take(1), 3);
            x.finish(0, true);
            due("over when one of two is", x.jobState(0, 1, 0), WAITING);
            x.finish(1, true);
            due("over when both are", x.jobState(0, 1, 0), QUEUED);
            due("good when both are", x.isGood(0, 0), true);
            due("artifacts", x.artifacts(0, 1), 2);
            due("cancel of the next run", pushed(x).cancel(1), 3);
        });
    }

    private static void matrix(int rows, int columns) {
        if (rows < 1 || rows > 4 || columns < 1 || columns > 4) {
            refused(rows + " by " + columns, PipelineRunner::new, ARGUMENT, x -> x.addStage(rows, columns));
            return;
        }
        PipelineRunner x = withMatrix(rows, columns);
        due("the jobs of " + rows + " by " + columns, x.jobs(0), rows * columns);
        due("those of its run", pushed(x).queued(), rows * columns);
    }

    /** Excludes one cell and sees which number is not there. */
    private static void cell(int rows, int columns, int row, int column) {
        if (row >= rows || column >= columns || rows * columns == 1) {
            return;
        }
        PipelineRunner x = withMatrix(rows, columns);
        x.exclude(0, row, column);
        x.push(0, 0, 0, 0);
        for (int job = 0; job < rows * columns; job++) {
            int each = job;
            String want = job == row * columns + column ? "IndexOutOfBoundsException" : "" + QUEUED;
            due(rows + " by " + columns + ", the job " + job, Told.answer(y -> y.jobState(0, 0, each), x), want);
        }
    }

    private static void oneIsLeft(int rows, int columns, int last) {
        Supplier<PipelineRunner> made = () -> {
            PipelineRunner x = withMatrix(rows, columns);
            for (int job = 0; job < rows * columns; job++) {
                if (job != last) {
                    x.exclude(0, job / columns, job % columns);
                }
            }
            return x;
        };
        due("jobs", made.get().jobs(0), 1);
        refused("the last of " + rows + " by " + columns, made, STATE,
                x -> x.exclude(0, last / columns, last % columns));
        due("the job of the run", pushed(made.get()).take(0), last);
    }

    private static void needs() {
        sentence(TERMS, "A stage can need other stages, directly", () -> {
            PipelineRunner x = withEightStages();
            for (int other = 0; other < 7; other++) {
                due("so many others", x.need(7, other), other + 1);
            }
            for (int stage = 0; stage < 8; stage++) {
                due("the last needs " + stage, x.needs(7, stage), stage < 7);
            }
        });
        sentence(TERMS, "no stage ever needs itself, directly or over others", () -> {
            for (int length = 1; length <= 8; length++) {
                for (int step = 1; step < 8; step += 2) {
                    closedChain(length, 0, step);
                    closedChain(length, 5, step);
                }
            }
        });
    }

    /** A chain of stages, each a step further round the eight; its end can't need any one of it. */
    private static void closedChain(int length, int start, int step) {
        Supplier<PipelineRunner> made = () -> {
            PipelineRunner x = withEightStages();
            for (int i = 1; i < length; i++) {
                x.need((start + (i - 1) * step) % 8, (start + i * step) % 8);
            }
            return x;
        };
        int end = (start + (length - 1) * step) % 8;
        for (int i = 0; i < length; i++) {
            int other = (start + i * step) % 8;
            refused("a chain of " + length, made, STATE, x -> x.need(end, other));
        }
        PipelineRunner x = made.get();
        for (int stage = 0; stage < 8; stage++) {
            due("itself", x.needs(stage, stage), false);
        }
    }

    private static void settings() {
        sentence(TERMS, "It has a number of retries, 0 to 2 (0 at first)", () -> {
            due("at first", failsUntilFailed(pushed(withStages(1))), 1);
            for (int retries = 0; retries <= 2; retries++) {
                PipelineRunner x = withStages(1);
                x.setStage(0, retries, 0);
                due("the retries " + retries, failsUntilFailed(pushed(x)), retries + 1);
            }
            int[] wrong = {-1, 3, Integer.MIN_VALUE, Integer.MAX_VALUE};
            for (int each : wrong) {
                refused("the retries " + each, () -> withStages(1), ARGUMENT, x -> x.setStage(0, each, 0));
            }
        });
        sentence(TERMS, "the length of a cache key, 0 to 3 (0 at first)", () -> {
            PipelineRunner first = withStages(1);
            pushAndPass(first, 1, 2, 3);
            due("at first", first.entries(), 0);
            String[] want = {"", "1 -1 -1", "1 2 -1", "1 2 3"};
            for (int length = 0; length <= 3; length++) {
                PipelineRunner x = withStages(1);
                x.setStage(0, 0, length);
                pushAndPass(x, 1, 2, 3);
                due("the length " + length, keys(x), want[length]);
            }
            int[] wrong = {-1, 4, Integer.MIN_VALUE, Integer.MAX_VALUE};
            for (int each : wrong) {
                refused("the length " + each, () -> withStages(1), ARGUMENT, x -> x.setStage(0, 0, each));
            }
        });
        sentence(TERMS, "and three marks: it stops fast, it may fail (both not, at first), and it can be interrupted (so at first).",
                () -> {
                    PipelineRunner x = pushed(withStages(2));
                    takeAndFinish(x, false);
                    due("stops fast", jobStates(x, 0, 0, 2), "4 1");
                    takeAndFinish(x, true);
                    due("may fail", x.isGood(0, 0), false);
                    x.push(0, 0, 0, 0);
                    x.take(0);
                    due("can be interrupted", x.cancel(1), 2);
                    due("all three marks", Told.of(() -> withMarks(false, false, true, 2)), Told.of(() -> withStages(2)));
                });
        sentence(TERMS, "Stages can only be changed as long as no run goes on.", () -> {
            changed("addStage", x -> x.addStage(1, 1));
            changed("need", x -> x.need(1, 0));
            changed("exclude", x -> x.exclude(0, 0, 1));
            changed("setStage", x -> x.setStage(0, 1, 1));
            changed("setMarks", x -> x.setMarks(0, true, true, false));
        });
    }

    /** How often the only job fails until it is FAILED. */
    private static int failsUntilFailed(PipelineRunner x) {
        for (int fails = 1; fails < 10; fails++) {
            x.take(0);
            if (x.finish(0, false) == FAILED) {
                return fails;
            }
        }
        return NONE;
    }

    private static void changed(String name, Consumer<PipelineRunner> call) {
        taken(name + " before a run", () -> withStages(2, 1), call);
        refused(name + " in a new run", () -> pushed(withStages(2, 1)), STATE, call);
        refused(name + " with the last job RUNNING", () -> {
            PipelineRunner x = pushed(withStages(2, 1));
            takeAndFinish(x, true);
            takeAndFinish(x, true);
            x.take(0);
            return x;
        }, STATE, call);
        taken(name + " when that is PASSED", () -> {
            PipelineRunner x = pushed(withStages(2, 1));
            takeAndFinishAll(x, true);
            return x;
        }, call);
        refused(name + " with two RUNNING of a cancelled run", TermsTest::withTwoRunningInACancelledRun, STATE, call);
        refused(name + " with one of them left", () -> {
            PipelineRunner x = withTwoRunningInACancelledRun();
            x.finish(1, true);
            return x;
        }, STATE, call);
        taken(name + " with none of them left", () -> {
            PipelineRunner x = withTwoRunningInACancelledRun();
            x.finish(1, true);
            x.lose(0);
            return x;
        }, call);
    }

    // ---- runs

    private static void runs() {
        sentence(TERMS, "A run is started by a push to a branch, 0 to 3", () -> {
            for (int branch = -1; branch <= 4; branch++) {
                int each = branch;
                if (branch < 0 || branch > 3) {
                    refused("the branch " + branch, () -> withStages(1), INDEX, x -> x.push(each, 0, 0, 0));
                } else {
                    PipelineRunner x = withStages(1);
                    due("the branch " + branch, x.push(branch, 0, 0, 0), 0);
                    due("its run", x.state(0), GOING);
                }
            }
        });
        sentence(TERMS, "with three inputs, 0 to 99", () -> {
            PipelineRunner x = withStages(1);
            x.setStage(0, 0, 3);
            pushAndPass(x, 0, 0, 0);
            pushAndPass(x, 99, 99, 99);
            pushAndPass(x, 0, 99, 0);
            due("the lowest and the highest", keys(x), "99 99 99, 0 0 0, 0 99 0");
            int[] wrong = {-1, 100, Integer.MIN_VALUE, Integer.MAX_VALUE};
            for (int each : wrong) {
                refused("the first " + each, () -> withStages(1), ARGUMENT, y -> y.push(0, each, 0, 0));
                refused("the second " + each, () -> withStages(1), ARGUMENT, y -> y.push(0, 0, each, 0));
                refused("the third " + each, () -> withStages(1), ARGUMENT, y -> y.push(0, 0, 0, each));
            }
        });
        sentence(TERMS, "it has all jobs of all stages", () -> {
            PipelineRunner x = new PipelineRunner();
            for (int i = 0; i < 8; i++) {
                x.addStage(4, 4);
            }
            x.push(0, 0, 0, 0);
            for (int i = 0; i < 8 * 16; i++) {
                due("the job " + i % 16 + " of the stage " + i / 16, x.jobState(0, i / 16, i % 16), QUEUED);
            }
        });
        sentence(TERMS, "and keeps the stages as they are then", TermsTest::keepsItsStages);
        sentence(TERMS, "Runs are numbered from 0; there are at most 80.", () -> {
            Supplier<PipelineRunner> seventyNine = () -> {
                PipelineRunner x = withStages(1);
                for (int i = 0; i < 79; i++) {
                    due("push", x.push(i % 4, 0, 0, 0), i);
                }
                return x;
            };
            due("the last", seventyNine.get().push(3, 0, 0, 0), 79);
            refused("one more", () -> {
                PipelineRunner x = seventyNine.get();
                x.push(0, 0, 0, 0);
                return x;
            }, STATE, x -> x.push(1, 0, 0, 0));
        });
        sentence(TERMS, "A job is WAITING, QUEUED, RUNNING, PASSED, FAILED, CANCELLED or SKIPPED.", () -> {
            PipelineRunner x = withStages(4, 1);
            x.need(1, 0);
            x.push(0, 0, 0, 0);
            takeAndFinish(x, true);
            takeAndFinish(x, false);
            x.take(0);
            due("five of them", jobStates(x, 0, 0, 4) + " " + x.jobState(0, 1, 0), "3 4 2 1 0");
            x.cancel(0);
            due("CANCELLED", jobStates(x, 0, 0, 4) + " " + x.jobState(0, 1, 0), "3 4 5 5 5");
            x.push(0, 0, 0, 0);
            for (int i = 0; i < 4; i++) {
                takeAndFinish(x, false);
            }
            due("SKIPPED", x.jobState(1, 1, 0), SKIPPED);
        });
    }

    /** A run that has ended tells the same when its stages are changed in all ways. */
    private static void keepsItsStages() {
        Supplier<PipelineRunner> made = () -> {
            PipelineRunner x = withMarks(true, true, true, 3, 2);
            x.setStage(0, 0, 2);
            x.push(0, 1, 2, 3);
            takeAndFinish(x, false);
            takeAndFinishAll(x, true);
            return x;
        };
        PipelineRunner x = made.get();
        String before = tellsOfRunZero(x);
        due("before", before, "9 true true 0 0: 4 1 0, 5 0 -1, 5 0 -1; 3 1 -1, 3 1 -1");
        x.setMarks(0, false, false, false);
        due("with other marks", tellsOfRunZero(x), before);
        x.exclude(0, 0, 0);
        x.exclude(1, 0, 1);
        due("with fewer jobs", tellsOfRunZero(x), before);
        x.need(0, 1);
        due("with another need", tellsOfRunZero(x), before);
        x.setStage(0, 2, 0);
        x.setStage(1, 2, 3);
        due("with other retries and lengths", tellsOfRunZero(x), before);
        x.addStage(4, 4);
        due("with another stage", tellsOfRunZero(x), before);
        x.push(0, 4, 5, 6);
        due("with another run", tellsOfRunZero(x), before);
        refused("the stage that was added", () -> {
            PipelineRunner y = made.get();
            y.addStage(1, 1);
            return y;
        }, INDEX, y -> y.jobState(0, 2, 0));
        hasAllOfItsStages();
    }

    /** A run has all that was written of its stages before, in whatever order. */
    private static void hasAllOfItsStages() {
        PipelineRunner x = withMarks(true, true, false, 4, 1);
        x.setStage(0, 2, 3);
        x.exclude(0, 0, 2);
        x.need(1, 0);
        x.push(0, 1, 2, 3);
        due("the need", queueOf(x), "0.0, 0.0, 0.0");
        due("the excluded job", Told.answer(y -> y.jobState(0, 0, 2), x), "IndexOutOfBoundsException");
        takeAndFinish(x, true);
        due("the key", keys(x), "1 2 3");
        for (int fails = 1; fails <= 5; fails++) {
            x.take(0);
            due("a fail", x.finish(0, false), fails == 5 ? FAILED : QUEUED);
        }
        due("it stops fast and may fail", jobStates(x, 0, 0, 2) + " " + x.isGood(0, 0), "3 4 true");
        x.push(1, 1, 2, 3);
        x.take(0);
        x.take(1);
        due("it can't be interrupted", x.cancel(1) + ": " + workerRuns(x), "3: 0 1 -1 -1");
    }

    private static String tellsOfRunZero(PipelineRunner x) {
        StringBuilder told = new StringBuilder().append(x.state(0)).append(' ').append(x.isGood(0, 0)).append(' ');
        told.append(x.isGood(0, 1)).append(' ').append(x.artifacts(0, 0)).append(' ').append(x.artifacts(0, 1));
        for (int i = 0; i < 5; i++) {
            int stage = i / 3;
            told.append(i == 0 ? ": " : i == 3 ? "; " : ", ").append(x.jobState(0, stage, i % 3)).append(' ');
            told.append(x.attempts(0, stage, i % 3)).append(' ').append(x.restored(0, stage, i % 3));
        }
        return told.toString();
    }

    private static void overAndGood() {
        sentence(TERMS, "A stage of a run is over if each of its jobs is one of the last four.", () -> {
            PipelineRunner x = withStages(3, 1, 1);
            needInARow(x);
            x.push(0, 0, 0, 0);
            due("three QUEUED", firstJobs(x, 0, 3), "1 0 0");
            takeAndFinish(x, true);
            takeAndFinish(x, false);
            due("one QUEUED", firstJobs(x, 0, 3), "3 0 0");
            x.take(0);
            due("one RUNNING", firstJobs(x, 0, 3), "3 0 0");
            x.finish(0, true);
            due("PASSED and FAILED, and one SKIPPED behind", firstJobs(x, 0, 3), "3 6 6");
            PipelineRunner two = withStages(2, 1);
            two.need(1, 0);
            two.push(0, 0, 0, 0);
            two.take(0);
            two.take(1);
            two.finish(1, true);
            due("one RUNNING beside one PASSED", firstJobs(two, 0, 2), "2 0");
            PipelineRunner y = withMarks(true, true, true, 3, 1);
            y.need(1, 0);
            y.push(0, 0, 0, 0);
            takeAndFinish(y, false);
            due("FAILED and CANCELLED", firstJobs(y, 0, 2), "4 1");
        });
        sentence(TERMS, "It is good if it is over, and each of its jobs is PASSED", () -> {
            for (int failing = 0; failing < 16; failing++) {
                PipelineRunner x = pushed(withMatrix(4, 4));
                for (int job = 0; job < 16; job++) {
                    due("not over", x.isGood(0, 0), false);
                    takeAndFinish(x, job != failing);
                }
                due("one FAILED of 16", x.isGood(0, 0), false);
            }
            PipelineRunner x = pushed(withMatrix(4, 4));
            takeAndFinishAll(x, true);
            due("all PASSED", x.isGood(0, 0), true);
            PipelineRunner cancelled = pushed(withStages(2));
            takeAndFinish(cancelled, true);
            cancelled.cancel(0);
            due("one CANCELLED", cancelled.isGood(0, 0), false);
        });
        sentence(TERMS, "or, if the stage may fail, PASSED, FAILED, or CANCELLED because the stage had stopped",
                TermsTest::goodThoughItFailed);
        sentence(TERMS, "It has stopped if it stops fast, and one of its jobs is FAILED.", () -> {
            PipelineRunner x = withMarks(true, false, true, 4);
            x.setStage(0, 1, 0);
            x.push(0, 0, 0, 0);
            takeAndFinish(x, true);
            due("a pass", jobStates(x, 0, 0, 4), "3 1 1 1");
            takeAndFinish(x, false);
            due("a fail that is tried again", jobStates(x, 0, 0, 4), "3 1 1 1");
            x.take(0);
            x.take(1);
            x.take(2);
            due("a loss", x.lose(0) + ": " + jobStates(x, 0, 0, 4), "1: 3 2 1 2");
            x.finish(2, false);
            due("the last fail", jobStates(x, 0, 0, 4), "3 4 5 2");
            due("a loss then", x.lose(1) + ": " + jobStates(x, 0, 0, 4), "5: 3 4 5 5");
            PipelineRunner y = pushed(withMarks(false, false, true, 3));
            takeAndFinish(y, false);
            due("one that does not stop fast", jobStates(y, 0, 0, 3), "4 1 1");
        });
        sentence(TERMS, "A run is GOING, CANCELLING, GOOD, BAD or CANCELLED; the first two mean that it goes on.", () -> {
            refused("GOING", () -> pushed(withStages(1)), STATE, x -> x.addStage(1, 1));
            refused("CANCELLING", TermsTest::withTwoRunningInACancelledRun, STATE, x -> x.addStage(1, 1));
            int[] ended = {GOOD, BAD, CANCELLED};
            for (int each : ended) {
                PipelineRunner x = pushed(withStages(1));
                if (each == CANCELLED) {
                    x.cancel(0);
                } else {
                    takeAndFinish(x, each == GOOD);
                }
                due("the state", x.state(0), each);
                due("addStage then", x.addStage(1, 1), 1);
            }
        });
    }

    private static void goodThoughItFailed() {
        PipelineRunner x = pushed(withMarks(false, true, true, 2));
        takeAndFinish(x, false);
        due("FAILED and QUEUED", x.isGood(0, 0), false);
        takeAndFinish(x, true);
        due("FAILED and PASSED", x.isGood(0, 0), true);
        PipelineRunner all = pushed(withMarks(false, true, true, 4));
        takeAndFinishAll(all, false);
        due("all FAILED", all.isGood(0, 0), true);
        PipelineRunner stopped = pushed(withMarks(true, true, true, 4));
        takeAndFinish(stopped, false);
        due("the others CANCELLED because it had stopped", stopped.isGood(0, 0), true);
        PipelineRunner mayNot = pushed(withMarks(true, false, true, 4));
        takeAndFinish(mayNot, false);
        due("one that may not fail", mayNot.isGood(0, 0), false);
        PipelineRunner cancelled = pushed(withMarks(false, true, true, 2));
        takeAndFinish(cancelled, false);
        cancelled.cancel(0);
        due("CANCELLED with its run", cancelled.isGood(0, 0), false);
        PipelineRunner both = pushed(withMarks(true, true, true, 3));
        both.take(0);
        both.take(1);
        both.finish(0, false);
        both.cancel(0);
        due("one CANCELLED because it had stopped, one with its run", both.isGood(0, 0), false);
        PipelineRunner skipped = withStages(1, 1);
        skipped.setMarks(1, true, true, true);
        skipped.need(1, 0);
        skipped.push(0, 0, 0, 0);
        takeAndFinish(skipped, false);
        due("SKIPPED", skipped.isGood(0, 1), false);
    }

    private static void howARunGoesOn() {
        sentence(TERMS, "When a run is started, all of its jobs are WAITING.", () -> {
            PipelineRunner x = withEightStages();
            needInARow(x);
            x.push(0, 0, 0, 0);
            due("all but the first", firstJobs(x, 0, 8), "1 0 0 0 0 0 0 0");
        });
        sentence(TERMS, "Then, and whenever a stage of it has become over, as long as it is GOING", () -> {
            due("then", firstJobs(pushed(withEightStages()), 0, 8), times(8, "1"));
            PipelineRunner x = withEightStages();
            needInARow(x);
            x.push(0, 0, 0, 0);
            for (int i = 1; i < 8; i++) {
                takeAndFinish(x, true);
                due("when " + i + " are over", firstJobs(x, 0, 8), (times(i, "3") + " 1 " + times(7 - i, "0")).trim());
            }
            PipelineRunner y = withMarks(false, false, false, 1, 1);
            y.need(1, 0);
            y.push(0, 0, 0, 0);
            y.take(0);
            y.cancel(0);
            y.finish(0, true);
            due("when it is not GOING", firstJobs(y, 0, 2), "3 5");
        });
        sentence(TERMS, "as long as there is a stage whose jobs are WAITING and all of whose direct needs are over, the lowest such stage is taken",
                TermsTest::theLowestIsTaken);
        sentence(TERMS, "if all of its direct needs are good, all of its jobs become QUEUED, by rising numbers", () -> {
            for (int needs = 0; needs < 8; needs++) {
                PipelineRunner x = withNeedsOfTheLast(needs);
                x.push(0, 0, 0, 0);
                for (int i = 0; i < 7; i++) {
                    takeAndFinish(x, true);
                }
                for (int job = 0; job < 16; job++) {
                    due(needs + " good needs", x.take(0), job);
                    x.finish(0, true);
                }
            }
        });
        sentence(TERMS, "otherwise all become SKIPPED", () -> {
            for (int bad = 0; bad < 7; bad++) {
                PipelineRunner x = withNeedsOfTheLast(7);
                x.push(0, 0, 0, 0);
                for (int i = 0; i < 7; i++) {
                    due("while one is not over", x.jobState(0, 7, 0), WAITING);
                    takeAndFinish(x, i != bad);
                }
                due("one bad need of seven", jobStates(x, 0, 7, 16), times(16, "6"));
                due("the queue", x.queued(), 0);
            }
        });
        sentence(TERMS, "When all stages of a run that is GOING are over, it becomes GOOD, if all of them are good, otherwise BAD.",
                () -> {
                    for (int bad = 0; bad <= 8; bad++) {
                        PipelineRunner x = pushed(withEightStages());
                        for (int stage = 0; stage < 8; stage++) {
                            due("while one is not over", x.state(0), GOING);
                            takeAndFinish(x, stage != bad);
                        }
                        due("one bad stage of eight, or none", x.state(0), bad == 8 ? GOOD : BAD);
                    }
                    PipelineRunner skipped = withEightStages();
                    needInARow(skipped);
                    skipped.push(0, 0, 0, 0);
                    takeAndFinish(skipped, false);
                    due("all others SKIPPED", skipped.state(0), BAD);
                    PipelineRunner cancelled = withTwoRunningInACancelledRun();
                    cancelled.finish(0, true);
                    cancelled.finish(1, true);
                    due("one that is not GOING", cancelled.state(0), CANCELLED);
                    theLargestRunEnds(true);
                    theLargestRunEnds(false);
                });
    }

    /** A run of as many jobs as there can be, while those of three more are in the queue behind them. */
    private static void theLargestRunEnds(boolean isLastPassed) {
        PipelineRunner x = new PipelineRunner();
        for (int i = 0; i < 8; i++) {
            x.addStage(4, 4);
        }
        for (int branch = 0; branch < 4; branch++) {
            x.push(branch, 0, 0, 0);
        }
        for (int i = 0; i < 127; i++) {
            takeAndFinish(x, true);
        }
        due("all but one of 128 jobs PASSED", x.state(0), GOING);
        takeAndFinish(x, isLastPassed);
        due("all of them over", x.state(0), isLastPassed ? GOOD : BAD);
        due("the others", x.state(1) + " " + x.state(2) + " " + x.state(3) + ", " + x.queued(), "7 7 7, 384");
    }

    private static void theLowestIsTaken() {
        due("eight at once", queueOf(pushed(withEightStages())), "0.0, 0.1, 0.2, 0.3, 0.4, 0.5, 0.6, 0.7");
        PipelineRunner x = withEightStages();
        for (int stage = 7; stage > 0; stage--) {
            x.need(stage, 0);
        }
        x.push(0, 0, 0, 0);
        takeAndFinish(x, true);
        due("seven at once", queueOf(x), "0.1, 0.2, 0.3, 0.4, 0.5, 0.6, 0.7");
        PipelineRunner back = withEightStages();
        for (int stage = 0; stage < 7; stage++) {
            back.need(stage, stage + 1);
        }
        back.push(0, 0, 0, 0);
        due("the highest first", queueOf(back), "0.7");
        takeAndFinish(back, false);
        due("skipped from the highest to the lowest", firstJobs(back, 0, 8), "6 6 6 6 6 6 6 4");
        PipelineRunner last = withEightStages();
        last.need(0, 7);
        last.push(0, 0, 0, 0);
        due("what needs none before", queueOf(last), "0.1, 0.2, 0.3, 0.4, 0.5, 0.6, 0.7");
        takeAndFinishAll(last, true);
        due("the lowest at last", last.state(0), GOOD);
        PipelineRunner both = withStages(1, 1, 1);
        both.need(0, 1);
        both.need(0, 2);
        both.push(0, 0, 0, 0);
        takeAndFinish(both, true);
        due("one of two needs over", both.jobState(0, 0, 0), WAITING);
        takeAndFinish(both, true);
        due("both needs over", both.jobState(0, 0, 0), QUEUED);
    }

    /** Eight stages, the last of 16 jobs; it needs the first ones directly. */
    private static PipelineRunner withNeedsOfTheLast(int count) {
        PipelineRunner x = withStages(1, 1, 1, 1, 1, 1, 1);
        x.addStage(4, 4);
        for (int other = 0; other < count; other++) {
            x.need(7, other);
        }
        return x;
    }

    private static void queue() {
        sentence(TERMS, "The queue has all QUEUED jobs of all runs", () -> {
            due("none", new PipelineRunner().queued(), 0);
            PipelineRunner x = new PipelineRunner();
            for (int i = 0; i < 8; i++) {
                x.addStage(4, 4);
            }
            for (int branch = 0; branch < 4; branch++) {
                x.push(branch, 0, 0, 0);
                due("all of " + (branch + 1) + " runs", x.queued(), 128 * (branch + 1));
            }
            for (int worker = 0; worker < 4; worker++) {
                x.take(worker);
            }
            due("without those that are RUNNING", x.queued(), 508);
            x.cancel(0);
            due("without those that are CANCELLED", x.queued(), 384);
            due("the first then", x.queuedRun(0) + "." + x.queuedStage(0), "1.0");
        });
        sentence(TERMS, "a job that becomes QUEUED joins it at its end", () -> {
            PipelineRunner x = withStages(1, 1);
            x.setStage(0, 1, 0);
            x.setStage(1, 1, 0);
            x.push(0, 0, 0, 0);
            x.push(1, 0, 0, 0);
            due("by pushes", queueOf(x), "0.0, 0.1, 1.0, 1.1");
            takeAndFinish(x, false);
            due("tried again", queueOf(x), "0.1, 1.0, 1.1, 0.0");
            x.take(1);
            x.lose(1);
            due("lost", queueOf(x), "1.0, 1.1, 0.0, 0.1");
            PipelineRunner one = pushed(withStages(1));
            one.take(0);
            one.lose(0);
            due("the only one", queueOf(one), "0.0");
            PipelineRunner behind = withStages(1, 1);
            behind.need(1, 0);
            behind.push(0, 0, 0, 0);
            behind.push(1, 0, 0, 0);
            takeAndFinish(behind, true);
            due("as its needs are good", queueOf(behind), "1.0, 0.1");
        });
    }

    // ---- workers

    private static void workers() {
        sentence(TERMS, "There are the workers 0 to 3", () -> {
            due("their runs", workerRuns(new PipelineRunner()), "-1 -1 -1 -1");
            int[] wrong = {-1, 4, Integer.MIN_VALUE, Integer.MAX_VALUE};
            for (int each : wrong) {
                refused("the worker " + each, () -> pushed(withStages(1)), INDEX, x -> x.take(each));
                refused("the worker " + each, () -> pushed(withStages(1)), INDEX, x -> x.workerRun(each));
            }
        });
        sentence(TERMS, "each of which is free or has a RUNNING job", () -> {
            PipelineRunner x = pushed(withStages(4, 1));
            for (int worker = 0; worker < 4; worker++) {
                due("take", x.take(worker), worker);
            }
            due("all have one", workerRuns(x), "0 0 0 0");
            due("their jobs", jobStates(x, 0, 0, 4) + " " + x.jobState(0, 1, 0), "2 2 2 2 1");
            for (int worker = 3; worker >= 0; worker--) {
                x.finish(worker, true);
            }
            due("all are free", workerRuns(x), "-1 -1 -1 -1");
        });
        sentence(TERMS, "A free worker takes the first job of the queue.", () -> {
            PipelineRunner x = pushed(withMatrix(4, 4));
            for (int job = 0; job < 16; job++) {
                int worker = job * 3 % 4;
                due("the first", x.take(worker), job);
                due("what is left", x.queued(), 15 - job);
                x.finish(worker, job % 2 == 0);
            }
            due("none is left", x.take(0), NONE);
        });
        sentence(TERMS, "When a worker finishes a job as passed, it becomes PASSED.", () -> {
            PipelineRunner x = withMarks(true, false, false, 3);
            x.setStage(0, 2, 0);
            x.push(0, 0, 0, 0);
            x.take(0);
            x.take(1);
            x.take(2);
            due("in a run that is GOING", x.finish(0, true), PASSED);
            x.cancel(0);
            due("in a run that is CANCELLING", x.finish(1, true), PASSED);
            due("the last one of that", x.finish(2, true), PASSED);
            due("all of them", jobStates(x, 0, 0, 3), "3 3 3");
            PipelineRunner y = pushed(withMarks(true, false, true, 2));
            y.take(0);
            y.take(1);
            y.finish(0, false);
            due("in a stage that has stopped", y.finish(1, true), PASSED);
            for (int marks = 0; marks < 8; marks++) {
                finishedWith((marks & 1) != 0, (marks & 2) != 0, (marks & 4) != 0, true, PASSED);
            }
        });
        sentence(TERMS, "In each case the worker is free then.", () -> {
            for (int worker = 0; worker < 4; worker++) {
                PipelineRunner x = withStages(4);
                x.setStage(0, 1, 0);
                x.push(0, 0, 0, 0);
                x.take(worker);
                x.finish(worker, false);
                due("tried again", workerRuns(x), "-1 -1 -1 -1");
                x.take(worker);
                x.lose(worker);
                due("lost", workerRuns(x), "-1 -1 -1 -1");
                x.take(worker);
                x.finish(worker, true);
                due("passed", workerRuns(x), "-1 -1 -1 -1");
                x.take(worker);
                due("busy", x.workerRun(worker), 0);
                due("its stage", x.workerStage(worker), 0);
            }
        });
    }

    /** A job finished in a run that is GOING, and one in a run that is CANCELLING if its stage can't be interrupted. */
    private static void finishedWith(boolean stopsFast, boolean mayFail, boolean isInterruptible, boolean isPassed, int state) {
        PipelineRunner x = pushed(withMarks(stopsFast, mayFail, isInterruptible, 2));
        x.take(0);
        due("in a run that is GOING", x.finish(0, isPassed) + " " + x.jobState(0, 0, 0), state + " " + state);
        PipelineRunner y = withMarks(stopsFast, mayFail, isInterruptible, 2);
        y.setStage(0, 2, 0);
        y.push(0, 0, 0, 0);
        y.take(0);
        y.cancel(0);
        due("in a cancelled run", Told.answer(z -> z.finish(0, isPassed), y),
                isInterruptible ? "IllegalStateException" : "" + state);
        due("its state there", y.jobState(0, 0, 0), isInterruptible ? CANCELLED : state);
    }

    private static void failedJobs() {
        sentence(TERMS, "When a worker finishes it as failed: if the run is GOING", () -> {
            PipelineRunner x = withMarks(false, false, false, 2);
            x.setStage(0, 2, 0);
            x.push(0, 0, 0, 0);
            x.take(0);
            x.take(1);
            due("GOING", x.finish(0, false), QUEUED);
            x.cancel(0);
            due("CANCELLING", x.finish(1, false), FAILED);
            due("the states", jobStates(x, 0, 0, 2), "5 4");
        });
        sentence(TERMS, "the stage has not stopped", () -> {
            PipelineRunner x = withMarks(true, false, true, 3);
            x.setStage(0, 2, 0);
            x.push(0, 0, 0, 0);
            x.take(0);
            x.take(1);
            for (int fails = 0; fails < 2; fails++) {
                due("the job 2 again", x.take(2), 2);
                due("not stopped", x.finish(2, false), QUEUED);
            }
            x.take(2);
            due("the fail that stops it", x.finish(2, false), FAILED);
            due("the first fail when it has stopped", x.finish(0, false), FAILED);
            due("the next one", x.finish(1, false), FAILED);
        });
        sentence(TERMS, "and the job has failed fewer times before than the stage has retries, it becomes QUEUED again", () -> {
            for (int retries = 0; retries <= 2; retries++) {
                PipelineRunner x = withStages(2);
                x.setStage(0, retries, 0);
                x.push(0, 0, 0, 0);
                due("both fail", fails(x, retries), times(2 * retries, "1") + " 4 4");
                x.push(0, 0, 0, 0);
                due("both fail in another run", fails(x, retries), times(2 * retries, "1") + " 4 4");
                PipelineRunner lost = withStages(1);
                lost.setStage(0, retries, 0);
                lost.push(0, 0, 0, 0);
                for (int i = 0; i < 5; i++) {
                    lost.take(0);
                    lost.lose(0);
                }
                due("losses are no fails", failsUntilFailed(lost), retries + 1);
                lossesBetweenFails(retries);
            }
        });
        sentence(TERMS, "otherwise it becomes FAILED", () -> {
            PipelineRunner x = pushed(withStages(1));
            x.take(0);
            due("without retries", x.finish(0, false), FAILED);
            due("its state", x.jobState(0, 0, 0), FAILED);
            due("the queue", x.queued(), 0);
            for (int marks = 0; marks < 8; marks++) {
                finishedWith((marks & 1) != 0, (marks & 2) != 0, (marks & 4) != 0, false, FAILED);
            }
        });
        sentence(TERMS, "and, if the stage has stopped then, all QUEUED jobs of this stage of the run become CANCELLED", () -> {
            for (int failing = 0; failing < 16; failing++) {
                PipelineRunner x = withMatrix(4, 4);
                x.setMarks(0, true, false, true);
                x.push(0, 0, 0, 0);
                for (int job = 0; job < failing; job++) {
                    takeAndFinish(x, true);
                }
                takeAndFinish(x, false);
                due("what is left of 16", jobStates(x, 0, 0, 16),
                        (times(failing, "3") + " 4 " + times(15 - failing, "5")).trim());
                due("the queue", x.queued(), 0);
            }
            for (int failing = 0; failing < 4; failing++) {
                PipelineRunner again = pushed(withMarks(true, false, true, 4));
                for (int worker = 0; worker < 4; worker++) {
                    again.take(worker);
                }
                for (int worker = 0; worker < 4; worker++) {
                    due("a job of each worker", worker == failing ? QUEUED : again.lose(worker), QUEUED);
                }
                again.finish(failing, false);
                due("those that were lost", jobStates(again, 0, 0, 4),
                        (times(failing, "5") + " 4 " + times(3 - failing, "5")).trim());
            }
            PipelineRunner x = withMarks(true, false, true, 4, 2);
            x.push(1, 0, 0, 0);
            x.push(2, 0, 0, 0);
            x.take(0);
            x.take(1);
            x.finish(0, false);
            due("this stage", jobStates(x, 0, 0, 4), "4 2 5 5");
            due("another stage, another run", queueOf(x), "0.1, 0.1, 1.0, 1.0, 1.0, 1.0, 1.1, 1.1");
        });
    }

    /** A loss does not make up for the fails before. */
    private static void lossesBetweenFails(int retries) {
        PipelineRunner x = withStages(1);
        x.setStage(0, retries, 0);
        x.push(0, 0, 0, 0);
        for (int fails = 0; fails <= retries; fails++) {
            x.take(fails);
            due("fails before: " + fails, x.finish(fails, false), fails < retries ? QUEUED : FAILED);
            x.take(3);
            due("lost then", Told.answer(y -> y.lose(3), x), fails < retries ? "" + QUEUED : "IllegalStateException");
        }
    }

    /** The two jobs fail in turn, until both should be FAILED. */
    private static String fails(PipelineRunner x, int retries) {
        StringBuilder told = new StringBuilder();
        for (int i = 0; i < 2 * (retries + 1); i++) {
            x.take(i % 4);
            told.append(i == 2 * retries ? " " : i == 0 ? "" : " ").append(x.finish(i % 4, false));
        }
        return told.toString();
    }

    private static void lostJobs() {
        sentence(TERMS, "When a worker loses its job, that becomes QUEUED again, if its run is GOING and the stage has not stopped",
                () -> {
                    PipelineRunner x = pushed(withMarks(true, false, true, 2));
                    x.take(0);
                    x.take(1);
                    due("lose", x.lose(0), QUEUED);
                    due("its state", jobStates(x, 0, 0, 2), "1 2");
                    PipelineRunner often = pushed(withStages(1));
                    for (int i = 0; i < 100; i++) {
                        often.take(0);
                        due("ever again", often.lose(0), QUEUED);
                    }
                });
        sentence(TERMS, "otherwise CANCELLED (if the run is GOING: because the stage had stopped)", () -> {
            PipelineRunner x = pushed(withMarks(true, true, true, 2));
            x.take(0);
            x.take(1);
            x.finish(0, false);
            due("the stage has stopped", x.lose(1), CANCELLED);
            due("the stage may fail", x.isGood(0, 0), true);
            due("the run", x.state(0), GOOD);
            PipelineRunner y = withTwoRunningInACancelledRun();
            due("the run is CANCELLING", y.lose(0), CANCELLED);
            due("and the stage may fail", y.isGood(0, 0), false);
            y.finish(1, true);
            due("when it is over", y.isGood(0, 0), false);
            PipelineRunner z = withTwoRunningInACancelledRun();
            z.finish(0, false);
            due("the run is CANCELLING, the stage has stopped", z.lose(1), CANCELLED);
            due("and may fail", z.isGood(0, 0), false);
        });
    }

    // ---- cancelling

    private static void cancelling() {
        sentence(TERMS, "When a run that is GOING is cancelled, all of its jobs that are WAITING or QUEUED become CANCELLED", () -> {
            PipelineRunner x = new PipelineRunner();
            for (int i = 0; i < 8; i++) {
                x.addStage(4, 4);
                x.setMarks(i, true, true, i % 2 == 0);
            }
            for (int i = 4; i < 8; i++) {
                x.need(i, i - 4);
            }
            x.push(0, 0, 0, 0);
            due("QUEUED", x.queued(), 64);
            due("cancel", x.cancel(0), 128);
            due("the queue then", x.queued(), 0);
            for (int stage = 0; stage < 8; stage++) {
                due("the stage " + stage, jobStates(x, 0, stage, 16), times(16, "5"));
            }
        });
        sentence(TERMS, "and those that are RUNNING in stages that can be interrupted, too, whose workers are free then", () -> {
            PipelineRunner x = withStages(2, 2);
            x.setMarks(1, false, false, false);
            x.push(0, 0, 0, 0);
            for (int worker = 0; worker < 4; worker++) {
                x.take(3 - worker);
            }
            due("cancel", x.cancel(0), 2);
            due("the workers", workerRuns(x), "0 0 -1 -1");
            due("the jobs", jobStates(x, 0, 0, 2) + " " + jobStates(x, 0, 1, 2), "5 5 2 2");
            PipelineRunner two = withStages(1);
            two.push(0, 0, 0, 0);
            two.push(1, 0, 0, 0);
            two.take(0);
            two.take(1);
            two.cancel(1);
            due("the workers of another run", workerRuns(two), "0 -1 -1 -1");
        });
        sentence(TERMS, "the run is CANCELLING", () -> {
            PipelineRunner x = withTwoRunningInACancelledRun();
            due("two RUNNING", x.state(0), CANCELLING);
            x.finish(0, false);
            due("one RUNNING", x.state(0), CANCELLING);
            refused("cancel again", TermsTest::withTwoRunningInACancelledRun, STATE, y -> y.cancel(0));
        });
        sentence(TERMS, "As soon as a run is CANCELLING and none of its jobs is RUNNING, it is CANCELLED.", () -> {
            PipelineRunner none = pushed(withMarks(false, false, false, 2));
            none.cancel(0);
            due("none from the first", none.state(0), CANCELLED);
            PipelineRunner interrupted = pushed(withStages(4));
            for (int worker = 0; worker < 4; worker++) {
                interrupted.take(worker);
            }
            interrupted.cancel(0);
            due("four, all interrupted", interrupted.state(0), CANCELLED);
            for (int way = 0; way < 3; way++) {
                PipelineRunner x = withTwoRunningInACancelledRun();
                giveBack(x, 1, way);
                due("one left", x.state(0), CANCELLING);
                giveBack(x, 0, way);
                due("none left", x.state(0), CANCELLED);
            }
        });
        sentence(TERMS, "A push cancels the run of the same branch that is GOING, if there is one, before it starts its own.", () -> {
            for (int branch = 0; branch < 4; branch++) {
                PipelineRunner x = withStages(1);
                for (int each = 0; each < 4; each++) {
                    x.push(each, 0, 0, 0);
                }
                x.push(branch, 0, 0, 0);
                for (int each = 0; each < 4; each++) {
                    due("the run of the branch " + each, x.state(each), each == branch ? CANCELLED : GOING);
                }
                due("the new one", x.queuedRun(3), 4);
            }
            PipelineRunner x = withTwoRunningInACancelledRun();
            x.push(0, 0, 0, 0);
            due("one that is CANCELLING", x.state(0) + " " + workerRuns(x), "8 0 0 -1 -1");
            PipelineRunner ended = withStages(1);
            pushAndPass(ended, 0, 0, 0);
            ended.push(0, 0, 0, 0);
            due("one that is GOOD", ended.state(0), GOOD);
            PipelineRunner busy = pushed(withStages(1));
            busy.take(2);
            busy.push(0, 0, 0, 0);
            due("one with a job RUNNING", busy.state(0) + " " + workerRuns(busy) + ", " + queueOf(busy), "5 -1 -1 -1 -1, 1.0");
        });
    }

    private static void giveBack(PipelineRunner x, int worker, int way) {
        if (way == 2) {
            x.lose(worker);
        } else {
            x.finish(worker, way == 0);
        }
    }

    // ---- caches

    private static void cacheKeys() {
        sentence(TERMS, "A cache entry belongs to a stage and has a key", () -> {
            PipelineRunner x = withStages(1, 1);
            x.setStage(0, 0, 3);
            x.setStage(1, 0, 3);
            x.push(0, 5, 6, 7);
            takeAndFinish(x, true);
            x.take(0);
            due("the same key of another stage", x.restored(0, 1, 0), 0);
            x.finish(0, true);
            due("two entries of one key", keys(x) + ": " + x.entryStage(0) + " " + x.entryStage(1), "5 6 7, 5 6 7: 0 1");
            due("entries of one stage dropped", x.setStage(0, 0, 0), 1);
            due("the other's left", keys(x) + ": " + x.entryStage(0), "5 6 7: 1");
        });
        sentence(TERMS, "as many of the inputs of a run, from the first on, as the length of the key of the stage tells", () -> {
            String[] want = {"", "5 -1 -1", "5 6 -1", "5 6 7"};
            for (int length = 0; length <= 3; length++) {
                PipelineRunner x = withStages(1);
                x.setStage(0, 0, length);
                pushAndPass(x, 5, 6, 7);
                due("the length " + length, keys(x), want[length]);
                pushAndPass(x, length < 1 ? 9 : 5, length < 2 ? 9 : 6, length < 3 ? 9 : 7);
                due("inputs behind the key are not of it", keys(x), want[length]);
            }
        });
        sentence(TERMS, "There are at most 10 entries.", () -> {
            PipelineRunner x = withStages(1);
            x.setStage(0, 0, 3);
            for (int i = 0; i < 25; i++) {
                pushAndPass(x, i, i, i);
                due("entries", x.entries(), Math.min(i + 1, 10));
            }
            PipelineRunner y = withEightStages();
            for (int stage = 0; stage < 8; stage++) {
                y.setStage(stage, 0, 1);
            }
            y.push(0, 1, 0, 0);
            takeAndFinishAll(y, true);
            due("one each of eight stages", y.entries(), 8);
            y.push(0, 2, 0, 0);
            takeAndFinishAll(y, true);
            due("of all stages together", y.entries(), 10);
        });
    }

    private static PipelineRunner withLength(int length, int... inputs) {
        PipelineRunner x = withStages(1);
        x.setStage(0, 0, length);
        for (int i = 0; i + 2 < inputs.length; i += 3) {
            pushAndPass(x, inputs[i], inputs[i + 1], inputs[i + 2]);
        }
        return x;
    }

    /** Pushes and takes; what is restored, and the keys in the order of their uses then. */
    private static String found(PipelineRunner x, int first, int second, int third) {
        int run = x.push(0, first, second, third);
        x.take(0);
        String told = x.restored(run, 0, 0) + ": " + keys(x);
        x.finish(0, false);
        return told;
    }

    private static void cacheLookups() {
        sentence(TERMS, "When a worker takes a job of a stage whose key has a length above 0, an entry of this stage is looked for", () -> {
            PipelineRunner x = withLength(1, 5, 0, 0, 6, 0, 0);
            due("the length 1", found(x, 5, 0, 0), "1: 6 -1 -1, 5 -1 -1");
            PipelineRunner y = withStages(1, 1);
            y.setStage(0, 0, 1);
            y.push(0, 5, 0, 0);
            takeAndFinish(y, true);
            y.take(0);
            due("the length 0", y.restored(0, 1, 0), NONE);
            y.finish(0, true);
            due("the length 0 makes none", y.entries(), 1);
        });
        sentence(TERMS, "the one whose key is the key of the job", () -> {
            due("the oldest", found(withLength(3, 1, 1, 1, 1, 1, 2, 1, 1, 3), 1, 1, 1), "3: 1 1 2, 1 1 3, 1 1 1");
            due("the one between", found(withLength(3, 1, 1, 1, 1, 1, 2, 1, 1, 3), 1, 1, 2), "3: 1 1 1, 1 1 3, 1 1 2");
            due("the latest", found(withLength(3, 1, 1, 1, 1, 1, 2, 1, 1, 3), 1, 1, 3), "3: 1 1 1, 1 1 2, 1 1 3");
        });
        sentence(TERMS, "if there is none, of the entries whose keys have the most inputs in common with the key of the job", () -> {
            due("two before one, though older", found(withLength(3, 1, 1, 1, 1, 2, 2), 1, 1, 3), "2: 1 2 2, 1 1 1");
            due("two before one, and later", found(withLength(3, 1, 2, 2, 1, 1, 1), 1, 1, 3), "2: 1 2 2, 1 1 1");
            due("one before none, though older", found(withLength(3, 1, 9, 9, 2, 1, 3), 1, 1, 3), "1: 2 1 3, 1 9 9");
            due("the length 2", found(withLength(2, 1, 1, 0, 2, 2, 0), 1, 3, 0), "1: 2 2 -1, 1 1 -1");
        });
        sentence(TERMS, "counted from the first one up to the first that differs", () -> {
            due("the second differs, the third does not", found(withLength(3, 1, 2, 3), 1, 9, 3), "1: 1 2 3");
            due("the third differs", found(withLength(3, 1, 2, 3), 1, 2, 9), "2: 1 2 3");
            due("two from the first on before two that are not", found(withLength(3, 1, 2, 9, 1, 8, 3), 1, 2, 3), "2: 1 8 3, 1 2 9");
        });
        sentence(TERMS, "but at least one", () -> {
            due("the first differs", found(withLength(3, 1, 2, 3, 4, 5, 6), 9, 2, 3), "0: 1 2 3, 4 5 6");
            due("the length 1", found(withLength(1, 1, 2, 3, 4, 5, 6), 9, 2, 3), "0: 1 -1 -1, 4 -1 -1");
            due("no entry", found(withLength(3), 9, 2, 3), "0: ");
        });
        sentence(TERMS, "the one that was used latest", () -> {
            PipelineRunner x = withLength(3, 1, 1, 1, 1, 1, 2, 1, 1, 3);
            due("the one made latest", found(x, 1, 1, 9), "2: 1 1 1, 1 1 2, 1 1 3");
            found(x, 1, 1, 1);
            due("the one found latest", found(x, 1, 1, 9), "2: 1 1 2, 1 1 3, 1 1 1");
            due("of one in common", found(x, 1, 9, 9), "1: 1 1 2, 1 1 3, 1 1 1");
            PipelineRunner ten = withLength(1);
            for (int i = 0; i < 10; i++) {
                pushAndPass(ten, i, 0, 0);
            }
            due("the oldest of ten", found(ten, 0, 0, 0).substring(0, 9), "1: 1 -1 -");
            due("its new place", key(ten, 9), "0 -1 -1");
        });
        sentence(TERMS, "The job has restored as many inputs as are in common, 0 if no entry was found", () -> {
            int[][] pushes = {{1, 2, 3}, {1, 2, 0}, {1, 0, 3}, {0, 2, 3}, {1, 0, 0}, {0, 0, 0}};
            int[][] want = {{1, 2, 3}, {1, 2, 2}, {1, 1, 1}, {0, 0, 0}, {1, 1, 1}, {0, 0, 0}};
            for (int i = 0; i < pushes.length; i++) {
                for (int length = 1; length <= 3; length++) {
                    String told = found(withLength(length, 1, 2, 3), pushes[i][0], pushes[i][1], pushes[i][2]);
                    due("the length " + length, told.substring(0, 2), want[i][length - 1] + ":");
                }
            }
        });
        sentence(TERMS, "the entry that was found is used", () -> {
            due("the same key", found(withLength(2, 1, 1, 0, 2, 2, 0), 1, 1, 5), "2: 2 2 -1, 1 1 -1");
            due("one in common", found(withLength(2, 1, 1, 0, 2, 2, 0), 1, 5, 5), "1: 2 2 -1, 1 1 -1");
            due("none", found(withLength(2, 1, 1, 0, 2, 2, 0), 3, 1, 5), "0: 1 1 -1, 2 2 -1");
        });
    }

    private static void cacheEntries() {
        sentence(TERMS, "When a job of such a stage is finished as passed, and there is no entry of the stage with its key, an entry is made, and used", () -> {
            PipelineRunner x = withLength(2, 1, 1, 0);
            x.push(0, 1, 2, 0);
            x.take(0);
            due("taken", keys(x), "1 1 -1");
            x.finish(0, true);
            due("passed, with an entry that is like it", keys(x), "1 1 -1, 1 2 -1");
            x.push(0, 1, 3, 0);
            takeAndFinish(x, false);
            due("failed", keys(x), "1 1 -1, 1 2 -1");
            x.push(0, 1, 4, 0);
            x.take(0);
            x.lose(0);
            due("lost", keys(x), "1 1 -1, 1 2 -1");
            x.cancel(3);
            due("cancelled", keys(x), "1 1 -1, 1 2 -1");
            x.setMarks(0, true, true, false);
            x.push(0, 1, 5, 0);
            x.take(0);
            x.cancel(4);
            x.finish(0, true);
            due("passed in a run that is CANCELLING", keys(x), "1 1 -1, 1 2 -1, 1 5 -1");
            madeByTheLastPass();
            madeAgain();
        });
        sentence(TERMS, "if there are 10 then already, first the one whose latest use is the longest ago is dropped", () -> {
            PipelineRunner x = withLength(1);
            for (int i = 0; i < 10; i++) {
                pushAndPass(x, i, 0, 0);
            }
            due("ten", key(x, 0) + ", " + key(x, 9), "0 -1 -1, 9 -1 -1");
            found(x, 0, 0, 0);
            pushAndPass(x, 10, 0, 0);
            due("the first was used since", key(x, 0) + ", " + key(x, 8) + ", " + key(x, 9), "2 -1 -1, 0 -1 -1, 10 -1 -1");
            due("ten still", x.entries(), 10);
            due("the dropped one", found(x, 1, 0, 0).substring(0, 2), "0:");
            PipelineRunner y = withStages(1, 1);
            y.setStage(0, 0, 1);
            y.setStage(1, 0, 2);
            for (int i = 0; i < 5; i++) {
                y.push(0, i, 0, 0);
                takeAndFinishAll(y, true);
            }
            y.push(0, 5, 0, 0);
            y.take(0);
            y.take(1);
            y.finish(1, true);
            due("one of another stage", y.entryStage(0) + " " + key(y, 0), "1 0 0 -1");
            due("the last made", y.entryStage(9) + " " + key(y, 9), "1 5 0 -1");
        });
        sentence(TERMS, "(If there is an entry with its key, nothing is done with that.)", () -> {
            PipelineRunner x = withLength(1);
            for (int i = 0; i < 9; i++) {
                pushAndPass(x, i, 0, 0);
            }
            x.push(0, 0, 0, 0);
            x.take(0);
            x.push(1, 9, 0, 0);
            x.take(1);
            x.finish(1, true);
            due("ten", key(x, 0) + ", " + key(x, 8) + ", " + key(x, 9), "1 -1 -1, 0 -1 -1, 9 -1 -1");
            x.finish(0, true);
            due("none is made, used or dropped", key(x, 0) + ", " + key(x, 8) + ", " + key(x, 9), "1 -1 -1, 0 -1 -1, 9 -1 -1");
            due("ten still", x.entries(), 10);
        });
        sentence(TERMS, "(All keys of a stage have the same length; when the length is changed, the entries of the stage are dropped.)", () -> {
            for (int from = 1; from <= 3; from++) {
                for (int to = 0; to <= 3; to++) {
                    PipelineRunner x = withLength(from, 1, 1, 1, 2, 2, 2);
                    String before = keys(x);
                    due("from " + from + " to " + to, x.setStage(0, 2, to), from == to ? 0 : 2);
                    due("the entries then", keys(x), from == to ? before : "");
                }
            }
            PipelineRunner x = withStages(1, 1, 1);
            for (int stage = 0; stage < 3; stage++) {
                x.setStage(stage, 0, 1);
            }
            for (int i = 0; i < 3; i++) {
                x.push(0, i, 0, 0);
                takeAndFinishAll(x, true);
            }
            due("of one stage of three", x.setStage(1, 0, 2), 3);
            StringBuilder left = new StringBuilder();
            for (int place = 0; place < x.entries(); place++) {
                left.append(x.entryStage(place)).append(x.entryInput(place, 0)).append(' ');
            }
            due("the others in their order", left.toString(), "00 20 01 21 02 22 ");
        });
    }

    /** The first job fails, is lost, and passes at last, in a stage that another job has stopped. */
    private static void madeByTheLastPass() {
        PipelineRunner x = withMarks(true, false, true, 2);
        x.setStage(0, 1, 1);
        x.push(0, 7, 0, 0);
        takeAndFinish(x, false);
        takeAndFinish(x, false);
        x.take(0);
        x.lose(0);
        x.take(1);
        x.take(0);
        due("the jobs", jobStates(x, 0, 0, 2) + ", attempts " + x.attempts(0, 0, 0), "2 2, attempts 3");
        x.finish(1, false);
        due("failed, lost", keys(x), "");
        x.finish(0, true);
        due("passed at last", keys(x), "7 -1 -1");
        due("the run is BAD, its entry is kept", x.state(0) + ": " + keys(x), "10: 7 -1 -1");
        x.push(0, 8, 0, 0);
        takeAndFinish(x, true);
        x.cancel(1);
        due("the run is CANCELLED, its entry is kept", x.state(1) + ": " + keys(x), "5: 7 -1 -1, 8 -1 -1");
    }

    /** A job whose entry is there when it is taken, but is dropped before it passes. */
    private static void madeAgain() {
        PipelineRunner x = withLength(1, 1, 0, 0);
        x.push(0, 1, 0, 0);
        x.take(0);
        due("taken", x.restored(1, 0, 0) + ": " + keys(x), "1: 1 -1 -1");
        for (int i = 0; i < 10; i++) {
            x.push(1, 10 + i, 0, 0);
            x.take(1);
            x.finish(1, true);
        }
        due("dropped by ten others", key(x, 0) + ", " + key(x, 9), "10 -1 -1, 19 -1 -1");
        x.finish(0, true);
        due("made again", key(x, 0) + ", " + key(x, 9), "11 -1 -1, 1 -1 -1");
    }

    // ---- exceptions

    private static void exceptions() {
        sentence(TERMS, "IndexOutOfBoundsException: there is no such stage, row, column, job, run, worker, branch or place.", () -> {
            Supplier<PipelineRunner> made = () -> pushed(withStages(1));
            refused("stage", made, INDEX, x -> x.jobs(1));
            refused("row", made, INDEX, x -> x.exclude(0, 1, 0));
            refused("column", made, INDEX, x -> x.exclude(0, 0, 1));
            refused("job", made, INDEX, x -> x.jobState(0, 0, 1));
            refused("run", made, INDEX, x -> x.state(1));
            refused("worker", made, INDEX, x -> x.take(4));
            refused("branch", made, INDEX, x -> x.push(4, 0, 0, 0));
            refused("place in the queue", made, INDEX, x -> x.queuedRun(1));
            refused("place of an entry", made, INDEX, x -> x.entryStage(0));
        });
        sentence(TERMS, "IllegalArgumentException: another argument is out of its range.", () -> {
            Supplier<PipelineRunner> made = () -> withStages(1);
            refused("rows", made, ARGUMENT, x -> x.addStage(5, 1));
            refused("columns", made, ARGUMENT, x -> x.addStage(1, 0));
            refused("retries", made, ARGUMENT, x -> x.setStage(0, 3, 0));
            refused("length", made, ARGUMENT, x -> x.setStage(0, 0, 4));
            refused("input", made, ARGUMENT, x -> x.push(0, 0, 0, 100));
        });
        sentence(TERMS, "IllegalStateException: as each method tells.", () -> {
            refused("push without a stage", PipelineRunner::new, STATE, x -> x.push(0, 0, 0, 0));
            refused("finish of a free worker", () -> pushed(withStages(1)), STATE, x -> x.finish(3, true));
            refused("lose of a free worker", () -> pushed(withStages(1)), STATE, x -> x.lose(3));
        });
        sentence(TERMS, "If several apply, the one that the throws clause names first is thrown.", TermsTest::whichIsFirst);
        sentence(TERMS, "A call that throws changes nothing.", TermsTest::changesNothing);
    }

    /** Each pair of exceptions that one call can deserve at once. */
    private static void whichIsFirst() {
        Supplier<PipelineRunner> going = () -> pushed(withStages(2, 1));
        Supplier<PipelineRunner> stopping = TermsTest::withTwoRunningInACancelledRun;
        refused("addStage: range and run", going, ARGUMENT, x -> x.addStage(0, 1));
        refused("addStage: range and CANCELLING run", stopping, ARGUMENT, x -> x.addStage(1, 5));
        refused("addStage: range and eight stages", TermsTest::withEightStages, ARGUMENT, x -> x.addStage(4, 5));
        refused("need: stage and run", going, INDEX, x -> x.need(2, 0));
        refused("need: other and run", stopping, INDEX, x -> x.need(0, 2));
        refused("need: no stages that are the same", () -> withStages(1), INDEX, x -> x.need(1, 1));
        refused("exclude: stage and run", going, INDEX, x -> x.exclude(2, 0, 0));
        refused("exclude: row and run", stopping, INDEX, x -> x.exclude(0, 1, 0));
        refused("exclude: column and run", going, INDEX, x -> x.exclude(0, 0, 2));
        refused("exclude: column of a stage with one job", () -> withStages(1), INDEX, x -> x.exclude(0, 0, 1));
        refused("setStage: stage and retries", () -> withStages(1), INDEX, x -> x.setStage(1, 3, 0));
        refused("setStage: stage and length", () -> withStages(1), INDEX, x -> x.setStage(-1, 0, 4));
        refused("setStage: stage and run", going, INDEX, x -> x.setStage(2, 0, 0));
        refused("setStage: all three", stopping, INDEX, x -> x.setStage(2, -1, -1));
        refused("setStage: retries and run", going, ARGUMENT, x -> x.setStage(0, 3, 0));
        refused("setStage: length and run", stopping, ARGUMENT, x -> x.setStage(1, 0, 4));
        refused("setMarks: stage and run", going, INDEX, x -> x.setMarks(2, true, true, true));
        refused("setMarks: stage and CANCELLING run", stopping, INDEX, x -> x.setMarks(-1, true, true, true));
        refused("push: branch and input", () -> withStages(1), INDEX, x -> x.push(4, 100, 0, 0));
        refused("push: branch and no stage", PipelineRunner::new, INDEX, x -> x.push(4, 0, 0, 0));
        refused("push: all three", PipelineRunner::new, INDEX, x -> x.push(-1, -1, -1, -1));
        refused("push: input and no stage", PipelineRunner::new, ARGUMENT, x -> x.push(3, 0, 0, 100));
        refused("push: input and six runs", TermsTest::withSixRuns, ARGUMENT, x -> x.push(0, 0, 100, 0));
        refused("push: branch and six runs", TermsTest::withSixRuns, INDEX, x -> x.push(4, 0, 0, 0));
        refused("take: no such worker, all busy", TermsTest::withSixRuns, INDEX, x -> x.take(4));
        refused("take: a busy worker, an empty queue", stopping, STATE, x -> x.take(0));
    }

    /** Four that are CANCELLING, with all workers, and two that are GOING. */
    private static PipelineRunner withSixRuns() {
        PipelineRunner x = withMarks(false, false, false, 1);
        for (int worker = 0; worker < 4; worker++) {
            x.push(0, 0, 0, 0);
            x.take(worker);
            x.cancel(worker);
        }
        x.push(0, 0, 0, 0);
        x.push(1, 0, 0, 0);
        return x;
    }

    /** Refused calls that would change something if they were taken in part. */
    private static void changesNothing() {
        refused("push that would cancel the run of its branch", TermsTest::withSixRuns, STATE, x -> x.push(0, 1, 1, 1));
        refused("push of a wrong input that would cancel", () -> pushed(withStages(2)), ARGUMENT, x -> x.push(0, 0, 0, 100));
        refused("setStage of right retries, a wrong length", () -> withStages(2), ARGUMENT, x -> x.setStage(0, 2, 4));
        refused("setStage of wrong retries, a right length", () -> withLength(2, 1, 1, 1), ARGUMENT, x -> x.setStage(0, 3, 1));
        refused("setStage of a length that would drop", () -> {
            PipelineRunner x = withLength(2, 1, 1, 1);
            x.push(0, 1, 1, 1);
            return x;
        }, STATE, x -> x.setStage(0, 2, 3));
        refused("setMarks in a run", () -> pushed(withStages(2)), STATE, x -> x.setMarks(0, true, true, false));
        refused("need that closes a circle", () -> {
            PipelineRunner x = withStages(1, 1, 1);
            needInARow(x);
            return x;
        }, STATE, x -> x.need(0, 2));
        refused("exclude of the last job", () -> withStages(1), STATE, x -> x.exclude(0, 0, 0));
        refused("take of a busy worker with a queue", () -> {
            PipelineRunner x = pushed(withStages(3));
            x.take(1);
            return x;
        }, STATE, x -> x.take(1));
        refused("cancel of a CANCELLING run", TermsTest::withTwoRunningInACancelledRun, STATE, x -> x.cancel(0));
        refused("a ninth stage", TermsTest::withEightStages, STATE, x -> x.addStage(2, 2));
    }

    // ---- the section as a whole

    /** Each sentence is quoted by a test above, but for those that only tell what words mean or where calls stand. */
    private static void everySentenceIsTested() {
        noBound(TERMS, "The calls write the stages, push, let workers take, finish or lose jobs, and look at runs, jobs, the queue and caches.");
        isQuotedWholly(TERMS, "(?!The constants|`|Ahead of the calls).*");
    }
}
