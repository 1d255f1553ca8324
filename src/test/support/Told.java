import java.util.ArrayList;
import java.util.List;
import java.util.function.Consumer;
import java.util.function.Function;
import java.util.function.Supplier;

/**
 * All that an object tells, now and when it is used on. An object answers 512 calls only, so the
 * questions are put to many objects made alike, a slice of the questions to each.
 */
final class Told {
    /** A maker may use 300 calls, and the call that is looked at is one more. */
    private static final int SLICE = 200;
    private static final int WORKERS = 4;

    private Told() {
    }

    /** What objects tell on which this call was made, be it refused or not. */
    static String after(Supplier<PipelineRunner> made, Consumer<PipelineRunner> call) {
        Supplier<PipelineRunner> called = () -> {
            PipelineRunner x = made.get();
            answer(y -> {
                call.accept(y);
                return "";
            }, x);
            return x;
        };
        return now(called) + "\nused on: " + usedOn(called.get()) + "\nstarted anew: " + startedAnew(called.get())
                + "\ncancelled anew: " + cancelledAnew(called.get());
    }

    /** What objects tell on which no call was made beside those of their maker. */
    static String of(Supplier<PipelineRunner> made) {
        return after(made, x -> { });
    }

    private static String now(Supplier<PipelineRunner> made) {
        List<Function<PipelineRunner, Object>> questions = questions(made.get());
        StringBuilder told = new StringBuilder();
        PipelineRunner x = null;
        for (int i = 0; i < questions.size(); i++) {
            x = i % SLICE == 0 ? made.get() : x;
            told.append(answer(questions.get(i), x)).append(i % 20 == 19 ? '\n' : ' ');
        }
        return told.toString();
    }

    /** What a call answers, or the name of what it throws. */
    static String answer(Function<PipelineRunner, Object> call, PipelineRunner x) {
        try {
            return String.valueOf(call.apply(x));
        } catch (RuntimeException thrown) {
            return thrown.getClass().getSimpleName();
        }
    }

    private static List<Function<PipelineRunner, Object>> questions(PipelineRunner counted) {
        List<Function<PipelineRunner, Object>> found = new ArrayList<>();
        found.add(PipelineRunner::stages);
        found.add(PipelineRunner::runs);
        found.add(PipelineRunner::queued);
        found.add(PipelineRunner::entries);
        int stages = counted.stages();
        for (int i = 0; i < stages; i++) {
            int stage = i;
            found.add(x -> x.jobs(stage));
            for (int j = 0; j < stages; j++) {
                int other = j;
                found.add(x -> x.needs(stage, other));
            }
        }
        int runs = counted.runs();
        for (int i = 0; i < runs; i++) {
            addRun(found, i, runs, stages);
        }
        addPlaces(found, counted.queued(), counted.entries());
        for (int i = 0; i < WORKERS; i++) {
            int worker = i;
            found.add(x -> x.workerRun(worker));
            found.add(x -> x.workerStage(worker));
        }
        return found;
    }

    private static void addRun(List<Function<PipelineRunner, Object>> found, int run, int runs, int stages) {
        found.add(x -> x.state(run));
        for (int i = 0; i < stages; i++) {
            int stage = i;
            found.add(x -> x.isGood(run, stage));
            found.add(x -> x.artifacts(run, stage));
            // A stage may have had more jobs, when the run was started, than now, and any numbers.
            for (int j = 0; j < (runs > 8 ? 3 : 16); j++) {
                int job = j;
                found.add(x -> x.jobState(run, stage, job));
                found.add(x -> x.attempts(run, stage, job));
                found.add(x -> x.restored(run, stage, job));
            }
        }
    }

    private static void addPlaces(List<Function<PipelineRunner, Object>> found, int queued, int entries) {
        for (int i = 0; i < queued; i++) {
            int place = i;
            found.add(x -> x.queuedRun(place));
            found.add(x -> x.queuedStage(place));
        }
        for (int i = 0; i < entries; i++) {
            int place = i;
            found.add(x -> x.entryStage(place));
            found.add(x -> x.entryInput(place, 0));
            found.add(x -> x.entryInput(place, 1));
            found.add(x -> x.entryInput(place, 2));
        }
    }

    /** The workers go on with what there is: shows retries, fails so far, and marks. */
    private static String usedOn(PipelineRunner x) {
        StringBuilder told = new StringBuilder();
        for (int i = 0; i < 24; i++) {
            int worker = i % WORKERS;
            boolean isPassed = i % 5 == 4;
            told.append(answer(y -> y.finish(worker, isPassed), x)).append(' ');
            told.append(answer(y -> y.take(worker), x)).append(' ');
        }
        return told.append(summary(x)).toString();
    }

    /** Ends the runs and starts others: shows retries, two of the marks, keys' lengths and the stages' jobs. */
    private static String startedAnew(PipelineRunner x) {
        StringBuilder told = new StringBuilder(endRuns(x));
        for (int i = 0; i < 30; i++) {
            told.append(i % 10 == 0 ? answer(y -> y.push(1, 1, 2, 3), x) + ' ' : "");
            int worker = i % 3;
            boolean isPassed = i % 4 == 3;
            told.append(answer(y -> y.take(worker), x)).append(' ');
            told.append(answer(y -> y.finish(worker, isPassed), x)).append(' ');
        }
        return told.append(summary(x)).toString();
    }

    /** Cancels a new run of which all workers have jobs: shows which stages can be interrupted. */
    private static String cancelledAnew(PipelineRunner x) {
        StringBuilder told = new StringBuilder(endRuns(x));
        told.append(answer(y -> y.push(2, 1, 2, 3), x)).append(' ');
        for (int i = 0; i < WORKERS; i++) {
            int worker = i;
            told.append(answer(y -> y.take(worker), x)).append(' ');
        }
        told.append(answer(y -> y.cancel(y.runs() - 1), x)).append(' ');
        return told.append(summary(x)).toString();
    }

    private static String endRuns(PipelineRunner x) {
        StringBuilder told = new StringBuilder();
        int runs = x.runs();
        for (int i = Math.max(0, runs - 8); i < runs; i++) {
            int run = i;
            told.append(answer(y -> y.cancel(run), x)).append(' ');
        }
        for (int i = 0; i < WORKERS; i++) {
            int worker = i;
            told.append(answer(y -> y.lose(worker), x)).append(' ');
        }
        return told.toString();
    }

    private static String summary(PipelineRunner x) {
        StringBuilder told = new StringBuilder("runs");
        int runs = x.runs();
        for (int i = Math.max(0, runs - 8); i < runs; i++) {
            told.append(' ').append(x.state(i));
        }
        told.append(", queue ").append(x.queued()).append(", entries");
        for (int i = 0; i < x.entries(); i++) {
            told.append(' ').append(x.entryStage(i)).append(':').append(x.entryInput(i, 0)).append('.')
                    .append(x.entryInput(i, 1)).append('.').append(x.entryInput(i, 2));
        }
        return told.toString();
    }
}
