import java.util.ArrayList;
import java.util.List;
import java.util.Random;
import java.util.TreeSet;
import java.util.function.Consumer;
import java.util.function.ToIntFunction;

/**
 * What an object tells after calls drawn from a seed: the state of each run and job, the queue, the
 * workers and the entries, beside what its stages were made with. As an object answers 512 calls
 * only, the questions go to many objects on which the same calls were made.
 */
final class Drawn {
    private static final int MOST_RUNS = 9;
    private static final int MOST_COLUMNS = 4;
    private static final int SLICE = 250;
    private static final int GONE = -2;

    final int seed;
    final int stages;
    final int[] columns;
    final boolean[][] needs;
    final int[] retries;
    final int[] lengths;
    final boolean[] stopsFast;
    final boolean[] mayFail;
    private final boolean[] isInterruptible;
    private final List<Consumer<PipelineRunner>> calls = new ArrayList<>();
    private final TreeSet<Integer> cancelled = new TreeSet<>();
    private final List<int[]> inputs = new ArrayList<>();
    private PipelineRunner asked;
    private int questions;

    final int runs;
    final int[] states;
    private final int[][][] jobStates;
    private final int[][][] attempts;
    private final int[][][] restored;
    private final boolean[][] isGood;
    private final int[][] artifacts;

    Drawn(int seed) {
        this.seed = seed;
        Random random = new Random(seed);
        stages = 1 + random.nextInt(5);
        columns = new int[stages];
        needs = new boolean[stages][stages];
        retries = new int[stages];
        lengths = new int[stages];
        stopsFast = new boolean[stages];
        mayFail = new boolean[stages];
        isInterruptible = new boolean[stages];
        drawStages(random);
        PipelineRunner x = made();
        drawCalls(random, x);
        runs = inputs.size();
        states = new int[runs];
        jobStates = new int[runs][stages][MOST_COLUMNS];
        attempts = new int[runs][stages][MOST_COLUMNS];
        restored = new int[runs][stages][MOST_COLUMNS];
        isGood = new boolean[runs][stages];
        artifacts = new int[runs][stages];
        for (int run = 0; run < runs; run++) {
            askOf(run);
        }
    }

    private void drawStages(Random random) {
        // Needs go along this order, so that they close no circle and a stage may need a higher one.
        int[] order = new int[stages];
        for (int i = 0; i < stages; i++) {
            int place = random.nextInt(i + 1);
            order[i] = order[place];
            order[place] = i;
        }
        for (int i = 0; i < stages; i++) {
            columns[i] = 1 + random.nextInt(MOST_COLUMNS);
            retries[i] = random.nextInt(3);
            lengths[i] = random.nextInt(4);
            stopsFast[i] = random.nextBoolean();
            mayFail[i] = random.nextInt(3) == 0;
            isInterruptible[i] = random.nextBoolean();
            for (int j = 0; j < i; j++) {
                needs[order[i]][order[j]] = random.nextInt(3) == 0;
            }
        }
    }

    /** An object with these stages, as yet without runs. */
    private PipelineRunner made() {
        PipelineRunner x = new PipelineRunner();
        for (int i = 0; i < stages; i++) {
            x.addStage(1, columns[i]);
            x.setStage(i, retries[i], lengths[i]);
            x.setMarks(i, stopsFast[i], mayFail[i], isInterruptible[i]);
        }
        for (int i = 0; i < stages; i++) {
            for (int j = 0; j < stages; j++) {
                if (needs[i][j]) {
                    x.need(i, j);
                }
            }
        }
        return x;
    }

    private void drawCalls(Random random, PipelineRunner x) {
        int[] latest = {GONE, GONE, GONE, GONE};
        int count = 20 + random.nextInt(130);
        // Some objects pass nearly all jobs, others fail many.
        int passes = 2 + random.nextInt(8);
        for (int i = 0; i < count; i++) {
            int kind = i == 0 ? 0 : random.nextInt(100);
            int worker = random.nextInt(4);
            boolean isPassed = random.nextInt(10) < passes;
            if (kind < 8 && inputs.size() < MOST_RUNS) {
                push(x, latest, worker, new int[] {random.nextInt(2), random.nextInt(2), random.nextInt(3)});
            } else if (kind < 10) {
                int run = random.nextInt(inputs.size());
                if (x.state(run) == PipelineRunner.GOING) {
                    cancelled.add(run);
                }
                call(x, y -> y.cancel(run));
            } else if (kind < 55) {
                call(x, y -> y.take(worker));
            } else if (kind < 95) {
                call(x, y -> y.finish(worker, isPassed));
            } else {
                call(x, y -> y.lose(worker));
            }
        }
    }

    private void push(PipelineRunner x, int[] latest, int branch, int[] in) {
        int older = latest[branch];
        boolean isGoing = older >= 0 && x.state(older) == PipelineRunner.GOING;
        if (call(x, y -> y.push(branch, in[0], in[1], in[2]))) {
            if (isGoing) {
                cancelled.add(older);
            }
            latest[branch] = inputs.size();
            inputs.add(in);
        }
    }

    /** Makes the call here and, later, on each object that is asked; false if it was refused. */
    private boolean call(PipelineRunner x, Consumer<PipelineRunner> call) {
        calls.add(call);
        return isTaken(x, call);
    }

    private static boolean isTaken(PipelineRunner x, Consumer<PipelineRunner> call) {
        try {
            call.accept(x);
            return true;
        } catch (IllegalStateException refused) {
            return false;
        }
    }

    private void askOf(int run) {
        states[run] = ask(x -> x.state(run));
        for (int i = 0; i < stages; i++) {
            int stage = i;
            isGood[run][stage] = ask(x -> x.isGood(run, stage) ? 1 : 0) == 1;
            artifacts[run][stage] = ask(x -> x.artifacts(run, stage));
            for (int j = 0; j < columns[stage]; j++) {
                int job = j;
                jobStates[run][stage][job] = ask(x -> x.jobState(run, stage, job));
                attempts[run][stage][job] = ask(x -> x.attempts(run, stage, job));
                restored[run][stage][job] = ask(x -> x.restored(run, stage, job));
            }
        }
    }

    /** The answer of an object on which all the calls were made. */
    int ask(ToIntFunction<PipelineRunner> question) {
        if (questions % SLICE == 0) {
            asked = made();
            for (Consumer<PipelineRunner> each : calls) {
                isTaken(asked, each);
            }
        }
        questions++;
        return question.applyAsInt(asked);
    }

    // ---- what was told

    int jobState(int run, int stage, int job) {
        return jobStates[run][stage][job];
    }

    int attempts(int run, int stage, int job) {
        return attempts[run][stage][job];
    }

    int restored(int run, int stage, int job) {
        return restored[run][stage][job];
    }

    boolean isGood(int run, int stage) {
        return isGood[run][stage];
    }

    int artifacts(int run, int stage) {
        return artifacts[run][stage];
    }

    /** Whether it was cancelled, by a call of its own or by a push. */
    boolean wasCancelled(int run) {
        return cancelled.contains(run);
    }

    int count(int run, int stage, int state) {
        int count = 0;
        for (int job = 0; job < columns[stage]; job++) {
            count += jobStates[run][stage][job] == state ? 1 : 0;
        }
        return count;
    }

    int countOfRun(int run, int state) {
        int count = 0;
        for (int stage = 0; stage < stages; stage++) {
            count += count(run, stage, state);
        }
        return count;
    }

    /** By the document's words: each of its jobs is PASSED, FAILED, CANCELLED or SKIPPED. */
    boolean isOver(int run, int stage) {
        return count(run, stage, PipelineRunner.WAITING) + count(run, stage, PipelineRunner.QUEUED)
                + count(run, stage, PipelineRunner.RUNNING) == 0;
    }

    /**
     * By the document's words, for a run that was not cancelled: there a job can only be CANCELLED
     * because its stage had stopped.
     */
    boolean isGoodByItsJobs(int run, int stage) {
        int passed = count(run, stage, PipelineRunner.PASSED);
        int failed = count(run, stage, PipelineRunner.FAILED) + count(run, stage, PipelineRunner.CANCELLED);
        return passed + (mayFail[stage] ? failed : 0) == columns[stage];
    }

    boolean hasStopped(int run, int stage) {
        return stopsFast[stage] && count(run, stage, PipelineRunner.FAILED) > 0;
    }
}
