import java.util.ArrayList;
import java.util.Arrays;
import java.util.Comparator;
import java.util.HashSet;
import java.util.List;
import java.util.Random;
import java.util.Set;
import java.util.TreeMap;

/**
 * Long runs of calls, drawn from fixed seeds, each answered by the class and by a model that follows
 * the document's words in another way: tickets for the queue, a clock for the caches, no order kept.
 */
public final class ModelTest {
    private static final int SEEDS = 6000;
    private static final int CALLS = 512;
    private static final String[] NAMES = {"addStage", "need", "exclude", "setStage", "setMarks", "stages", "jobs",
        "needs", "push", "cancel", "runs", "state", "jobState", "attempts", "restored", "isGood", "artifacts",
        "queued", "queuedRun", "queuedStage", "take", "finish", "lose", "workerRun", "workerStage", "entries",
        "entryStage", "entryInput"};

    /** How often a call is drawn while stages are written, and while runs go on. */
    private static final int[] WRITING = {6, 12, 8, 8, 8, 1, 2, 4, 1, 0, 0, 1, 1, 0, 0, 0, 0, 1, 0, 0, 1, 1, 0, 0, 0,
        1, 0, 0};
    private static final int[] RUNNING = {1, 1, 1, 1, 1, 1, 1, 1, 12, 5, 1, 6, 12, 6, 8, 6, 6, 4, 8, 6, 50, 46, 10, 4,
        4, 2, 6, 8};
    private static final int[] PUSHING = {1, 1, 1, 1, 1, 1, 1, 1, 60, 5, 1, 6, 6, 6, 8, 6, 6, 4, 8, 6, 24, 14, 4, 4, 4,
        2, 6, 8};

    /** The answers that every long run of seeds must have met, so that no part of the draw dies out. */
    private static final String[] MET = {"addStage IAE", "addStage ISE", "need IOOBE", "need ISE", "exclude IOOBE",
        "exclude ISE", "setStage IOOBE", "setStage IAE", "setStage ISE", "setMarks IOOBE", "setMarks ISE",
        "jobs IOOBE", "needs IOOBE", "push IOOBE", "push IAE", "push ISE", "cancel IOOBE", "cancel ISE",
        "state IOOBE", "jobState IOOBE", "attempts IOOBE", "restored IOOBE", "isGood IOOBE", "artifacts IOOBE",
        "queuedRun IOOBE", "queuedStage IOOBE", "take IOOBE", "take ISE", "finish IOOBE", "finish ISE",
        "lose IOOBE", "lose ISE", "workerRun IOOBE", "workerStage IOOBE", "entryStage IOOBE", "entryInput IOOBE",
        "take -1", "finish 1", "finish 3", "finish 4", "lose 1", "lose 5", "state 5", "state 7", "state 8",
        "state 9", "state 10", "jobState 0", "jobState 1", "jobState 2", "jobState 3", "jobState 4", "jobState 5",
        "jobState 6", "restored -1", "restored 0", "restored 1", "restored 2", "restored 3", "entries 10",
        "runs 80", "stages 8", "setStage 0", "setStage 1", "setStage 2", "setStage 3", "entryInput -1",
        "a push refused because 6 runs go on", "a push refused because there are 80 runs"};

    public static void main(String[] args) {
        TreeMap<String, Integer> met = new TreeMap<>();
        int wrong = 0;
        for (int seed = 0; seed < SEEDS && wrong < 5; seed++) {
            if (!agrees(seed, met)) {
                wrong++;
            }
        }
        for (String answer : MET) {
            if (!met.containsKey(answer)) {
                System.out.println("never met: " + answer);
                wrong++;
            }
        }
        if (args.length > 0) {
            System.out.println(met);
        }
        System.out.println(SEEDS + " runs of " + CALLS + " calls, " + wrong + " faults");
        System.exit(wrong == 0 ? 0 : 1);
    }

    private static boolean agrees(int seed, TreeMap<String, Integer> met) {
        Random random = new Random(seed);
        PipelineRunner runner = new PipelineRunner();
        Model model = new Model();
        Draw draw = new Draw(random, model);
        List<String> told = new ArrayList<>();
        int writing = 5 + random.nextInt(60);
        int[] later = random.nextInt(4) == 0 ? PUSHING : RUNNING;
        for (int call = 0; call < CALLS; call++) {
            boolean isWriting = call < writing || model.goOn() == 0 && random.nextInt(3) == 0;
            int name = draw.name(isWriting ? WRITING : later);
            int[] a = draw.arguments(name);
            String due = answerOfModel(model, name, a);
            String got = answerOfClass(runner, name, a);
            told.add(NAMES[name] + Arrays.toString(a) + " -> " + got);
            met.merge(NAMES[name] + " " + got, 1, Integer::sum);
            if (NAMES[name].equals("push") && due.equals("ISE") && !model.stages.isEmpty()) {
                met.merge(model.runs.size() == 80 ? "a push refused because there are 80 runs"
                        : "a push refused because 6 runs go on", 1, Integer::sum);
            }
            if (!due.equals(got)) {
                System.out.println("seed " + seed + ": " + String.join("\n  ", told) + ", due is " + due);
                return false;
            }
        }
        return true;
    }

    private static String answerOfClass(PipelineRunner x, int name, int[] a) {
        try {
            return "" + callClass(x, name, a);
        } catch (RuntimeException thrown) {
            return kindOf(thrown);
        }
    }

    /** Short names for the document's exceptions thrown by the class itself; all else is told whole. */
    private static String kindOf(RuntimeException thrown) {
        StackTraceElement[] trace = thrown.getStackTrace();
        if (trace.length == 0 || !trace[0].getClassName().startsWith("PipelineRunner")) {
            return "thrown by the machine: " + thrown;
        }
        if (thrown.getClass() == IndexOutOfBoundsException.class) {
            return "IOOBE";
        }
        if (thrown.getClass() == IllegalArgumentException.class) {
            return "IAE";
        }
        return thrown.getClass() == IllegalStateException.class ? "ISE" : "" + thrown;
    }

    private static String answerOfModel(Model x, int name, int[] a) {
        try {
            return "" + callModel(x, name, a);
        } catch (Refusal refusal) {
            return refusal.kind;
        }
    }

    private static int bit(boolean b) {
        return b ? 1 : 0;
    }

    private static int callClass(PipelineRunner x, int name, int[] a) {
        switch (NAMES[name]) {
            case "addStage": return x.addStage(a[0], a[1]);
            case "need": return x.need(a[0], a[1]);
            case "exclude": return x.exclude(a[0], a[1], a[2]);
            case "setStage": return x.setStage(a[0], a[1], a[2]);
            case "setMarks": x.setMarks(a[0], a[1] == 1, a[2] == 1, a[3] == 1); return 0;
            case "stages": return x.stages();
            case "jobs": return x.jobs(a[0]);
            case "needs": return bit(x.needs(a[0], a[1]));
            case "push": return x.push(a[0], a[1], a[2], a[3]);
            case "cancel": return x.cancel(a[0]);
            case "runs": return x.runs();
            case "state": return x.state(a[0]);
            case "jobState": return x.jobState(a[0], a[1], a[2]);
            case "attempts": return x.attempts(a[0], a[1], a[2]);
            case "restored": return x.restored(a[0], a[1], a[2]);
            case "isGood": return bit(x.isGood(a[0], a[1]));
            case "artifacts": return x.artifacts(a[0], a[1]);
            case "queued": return x.queued();
            case "queuedRun": return x.queuedRun(a[0]);
            case "queuedStage": return x.queuedStage(a[0]);
            case "take": return x.take(a[0]);
            case "finish": return x.finish(a[0], a[1] == 1);
            case "lose": return x.lose(a[0]);
            case "workerRun": return x.workerRun(a[0]);
            case "workerStage": return x.workerStage(a[0]);
            case "entries": return x.entries();
            case "entryStage": return x.entryStage(a[0]);
            default: return x.entryInput(a[0], a[1]);
        }
    }

    private static int callModel(Model x, int name, int[] a) {
        switch (NAMES[name]) {
            case "addStage": return x.addStage(a[0], a[1]);
            case "need": return x.need(a[0], a[1]);
            case "exclude": return x.exclude(a[0], a[1], a[2]);
            case "setStage": return x.setStage(a[0], a[1], a[2]);
            case "setMarks": return x.setMarks(a[0], a[1] == 1, a[2] == 1, a[3] == 1);
            case "stages": return x.stages.size();
            case "jobs": return x.stage(a[0]).cells.size();
            case "needs": x.stage(a[1]); return bit(x.stage(a[0]).all(x.stages).contains(a[1]));
            case "push": return x.push(a[0], a[1], a[2], a[3]);
            case "cancel": return x.cancel(a[0]);
            case "runs": return x.runs.size();
            case "state": return x.run(a[0]).state;
            case "jobState": return x.job(a[0], a[1], a[2]).state;
            case "attempts": return x.job(a[0], a[1], a[2]).attempts;
            case "restored": return x.job(a[0], a[1], a[2]).restored;
            case "isGood": x.hasStage(a[0], a[1]); return bit(x.run(a[0]).isGood(a[1]));
            case "artifacts": x.hasStage(a[0], a[1]); return x.artifacts(a[0], a[1]);
            case "queued": return x.queue().size();
            case "queuedRun": return x.inQueue(a[0]).run.number;
            case "queuedStage": return x.inQueue(a[0]).stage;
            case "take": return x.take(a[0]);
            case "finish": return x.finish(a[0], a[1] == 1);
            case "lose": return x.lose(a[0]);
            case "workerRun": return x.of(a[0]) == null ? -1 : x.of(a[0]).run.number;
            case "workerStage": return x.of(a[0]) == null ? -1 : x.of(a[0]).stage;
            case "entries": return x.entries.size();
            case "entryStage": return x.entry(a[0]).stage;
            default: return x.entryInput(a[0], a[1]);
        }
    }

    /** Draws calls: mostly such that can be answered, now and then such that must be refused. */
    private static final class Draw {
        final Random random;
        final Model model;

        Draw(Random random, Model model) {
            this.random = random;
            this.model = model;
        }

        int name(int[] weights) {
            int sum = 0;
            for (int weight : weights) {
                sum += weight;
            }
            int left = random.nextInt(sum);
            int name = 0;
            while (left >= weights[name]) {
                left -= weights[name];
                name++;
            }
            return name;
        }

        /** A number below the bound, or, seldom, one at or beyond an edge. */
        int below(int bound) {
            if (bound <= 0 || random.nextInt(40) == 0) {
                int[] odd = {-1, bound, bound + 1, Integer.MIN_VALUE, Integer.MAX_VALUE, 64, 32};
                return odd[random.nextInt(odd.length)];
            }
            return random.nextInt(bound);
        }

        int run() {
            int runs = model.runs.size();
            return runs > 4 && random.nextInt(3) > 0 ? runs - 1 - random.nextInt(4) : below(runs);
        }

        int input() {
            return random.nextInt(30) == 0 ? below(100) : random.nextInt(3);
        }

        /** A worker that is free, or one that is not, as a call wants it; seldom any. */
        int worker(boolean isFree) {
            int start = random.nextInt(4);
            for (int i = 0; i < 4 && random.nextInt(20) > 0; i++) {
                int worker = (start + i) % 4;
                if ((model.workers[worker] == null) == isFree) {
                    return worker;
                }
            }
            return below(4);
        }

        int mark() {
            return random.nextInt(2);
        }

        int side() {
            return random.nextInt(20) == 0 ? below(5) : 1 + random.nextInt(random.nextInt(3) + 1);
        }

        int[] arguments(int name) {
            int stages = model.stages.size();
            switch (NAMES[name]) {
                case "addStage": return new int[] {side(), side()};
                case "need": return new int[] {below(stages), below(stages)};
                case "needs": return new int[] {below(stages), below(stages)};
                case "exclude": return new int[] {below(stages), below(3), below(3)};
                case "setStage": return new int[] {below(stages), below(3), below(4)};
                case "setMarks": return new int[] {below(stages), mark(), mark(), mark()};
                case "jobs": return new int[] {below(stages)};
                case "push": return new int[] {below(4), input(), input(), input()};
                case "cancel": return new int[] {run()};
                case "state": return new int[] {run()};
                case "jobState": case "attempts": case "restored":
                    return new int[] {run(), below(stages), below(random.nextInt(4) == 0 ? 16 : 4)};
                case "isGood": case "artifacts": return new int[] {run(), below(stages)};
                case "queuedRun": case "queuedStage": return new int[] {below(model.queue().size())};
                case "take": return new int[] {worker(true)};
                case "finish": return new int[] {worker(false), random.nextInt(3) > 0 ? 1 : 0};
                case "lose": return new int[] {worker(false)};
                case "workerRun": case "workerStage": return new int[] {worker(random.nextBoolean())};
                case "entryStage": return new int[] {below(model.entries.size())};
                case "entryInput": return new int[] {below(model.entries.size()), below(3)};
                default: return new int[0];
            }
        }
    }

    /** An exception that the document names, of the model. */
    private static final class Refusal extends RuntimeException {
        private static final long serialVersionUID = 1;
        final String kind;

        Refusal(String kind) {
            super(kind, null, false, false);
            this.kind = kind;
        }
    }

    private static void refuse(boolean isRefused, String kind) {
        if (isRefused) {
            throw new Refusal(kind);
        }
    }

    private static final class ModelStage {
        int rows;
        int columns;
        Set<Integer> cells = new HashSet<>();
        Set<Integer> direct = new HashSet<>();
        int retries;
        int length;
        boolean stopsFast;
        boolean mayFail;
        boolean isInterruptible = true;

        Set<Integer> all(List<ModelStage> stages) {
            Set<Integer> found = new HashSet<>(direct);
            for (int each : direct) {
                found.addAll(stages.get(each).all(stages));
            }
            return found;
        }

        ModelStage frozen() {
            ModelStage copy = new ModelStage();
            copy.cells.addAll(cells);
            copy.direct.addAll(direct);
            copy.retries = retries;
            copy.length = length;
            copy.stopsFast = stopsFast;
            copy.mayFail = mayFail;
            copy.isInterruptible = isInterruptible;
            return copy;
        }
    }

    private static final class ModelJob {
        ModelRun run;
        int stage;
        int number;
        int state;
        int attempts;
        int failures;
        int restored = -1;
        boolean isStopped;
        long ticket;

        ModelStage kind() {
            return run.stages.get(stage);
        }
    }

    private static final class ModelRun {
        int number;
        int branch;
        int[] inputs;
        int state = 7;
        List<ModelStage> stages = new ArrayList<>();
        List<ModelJob> jobs = new ArrayList<>();

        List<ModelJob> of(int stage) {
            List<ModelJob> found = new ArrayList<>();
            for (ModelJob job : jobs) {
                if (job.stage == stage) {
                    found.add(job);
                }
            }
            return found;
        }

        boolean isOver(int stage) {
            return of(stage).stream().allMatch(job -> job.state >= 3);
        }

        boolean isGood(int stage) {
            boolean mayFail = stages.get(stage).mayFail;
            return of(stage).stream().allMatch(job -> job.state == 3
                    || mayFail && (job.state == 4 || job.state == 5 && job.isStopped));
        }

        boolean hasStopped(int stage) {
            return stages.get(stage).stopsFast && of(stage).stream().anyMatch(job -> job.state == 4);
        }

        int lowestReady() {
            for (int i = 0; i < stages.size(); i++) {
                if (of(i).get(0).state == 0 && stages.get(i).direct.stream().allMatch(this::isOver)) {
                    return i;
                }
            }
            return -1;
        }
    }

    private static final class ModelEntry {
        int stage;
        List<Integer> key = new ArrayList<>();
        long usedAt;
    }

    private static final class Model {
        List<ModelStage> stages = new ArrayList<>();
        List<ModelRun> runs = new ArrayList<>();
        ModelJob[] workers = new ModelJob[4];
        List<ModelEntry> entries = new ArrayList<>();
        long clock;

        ModelStage stage(int stage) {
            refuse(stage < 0 || stage >= stages.size(), "IOOBE");
            return stages.get(stage);
        }

        ModelRun run(int run) {
            refuse(run < 0 || run >= runs.size(), "IOOBE");
            return runs.get(run);
        }

        void hasStage(int run, int stage) {
            refuse(stage < 0 || stage >= run(run).stages.size(), "IOOBE");
        }

        ModelJob job(int run, int stage, int number) {
            for (ModelJob job : run(run).of(stage)) {
                if (job.number == number) {
                    return job;
                }
            }
            throw new Refusal("IOOBE");
        }

        ModelJob of(int worker) {
            refuse(worker < 0 || worker > 3, "IOOBE");
            return workers[worker];
        }

        long goOn() {
            return runs.stream().filter(run -> run.state == 7 || run.state == 8).count();
        }

        List<ModelJob> queue() {
            List<ModelJob> found = new ArrayList<>();
            for (ModelRun run : runs) {
                for (ModelJob job : run.state == 7 ? run.jobs : List.<ModelJob>of()) {
                    if (job.state == 1) {
                        found.add(job);
                    }
                }
            }
            found.sort(Comparator.comparingLong(job -> job.ticket));
            return found;
        }

        ModelJob inQueue(int place) {
            List<ModelJob> queue = queue();
            refuse(place < 0 || place >= queue.size(), "IOOBE");
            return queue.get(place);
        }

        ModelEntry entry(int place) {
            refuse(place < 0 || place >= entries.size(), "IOOBE");
            List<ModelEntry> sorted = new ArrayList<>(entries);
            sorted.sort(Comparator.comparingLong(entry -> entry.usedAt));
            return sorted.get(place);
        }

        int entryInput(int place, int input) {
            ModelEntry entry = entry(place);
            refuse(input < 0 || input > 2, "IOOBE");
            return input < entry.key.size() ? entry.key.get(input) : -1;
        }

        int addStage(int rows, int columns) {
            refuse(rows < 1 || rows > 4 || columns < 1 || columns > 4, "IAE");
            refuse(goOn() > 0 || stages.size() == 8, "ISE");
            ModelStage stage = new ModelStage();
            stage.rows = rows;
            stage.columns = columns;
            for (int cell = 0; cell < rows * columns; cell++) {
                stage.cells.add(cell);
            }
            stages.add(stage);
            return stages.size() - 1;
        }

        int need(int stage, int other) {
            refuse(stage < 0 || stage >= stages.size() || other < 0 || other >= stages.size(), "IOOBE");
            ModelStage needing = stages.get(stage);
            refuse(goOn() > 0 || stage == other || needing.direct.contains(other)
                    || stages.get(other).all(stages).contains(stage), "ISE");
            needing.direct.add(other);
            return needing.direct.size();
        }

        int exclude(int stage, int row, int column) {
            ModelStage changed = stage(stage);
            refuse(row < 0 || row >= changed.rows || column < 0 || column >= changed.columns, "IOOBE");
            int cell = row * changed.columns + column;
            refuse(goOn() > 0 || !changed.cells.contains(cell) || changed.cells.size() == 1, "ISE");
            changed.cells.remove(cell);
            return changed.cells.size();
        }

        int setStage(int stage, int retries, int length) {
            ModelStage changed = stage(stage);
            refuse(retries < 0 || retries > 2 || length < 0 || length > 3, "IAE");
            refuse(goOn() > 0, "ISE");
            int before = entries.size();
            if (changed.length != length) {
                entries.removeIf(entry -> entry.stage == stage);
            }
            changed.retries = retries;
            changed.length = length;
            return before - entries.size();
        }

        int setMarks(int stage, boolean stopsFast, boolean mayFail, boolean isInterruptible) {
            ModelStage changed = stage(stage);
            refuse(goOn() > 0, "ISE");
            changed.stopsFast = stopsFast;
            changed.mayFail = mayFail;
            changed.isInterruptible = isInterruptible;
            return 0;
        }

        int push(int branch, int... inputs) {
            refuse(branch < 0 || branch > 3, "IOOBE");
            for (int input : inputs) {
                refuse(input < 0 || input > 99, "IAE");
            }
            refuse(stages.isEmpty() || goOn() >= 6 || runs.size() == 80, "ISE");
            for (ModelRun run : runs) {
                if (run.branch == branch && run.state == 7) {
                    cancel(run.number);
                }
            }
            ModelRun run = new ModelRun();
            run.number = runs.size();
            run.branch = branch;
            run.inputs = inputs;
            for (ModelStage stage : stages) {
                run.stages.add(stage.frozen());
            }
            for (int i = 0; i < stages.size(); i++) {
                for (int cell = 0; cell < 16; cell++) {
                    if (stages.get(i).cells.contains(cell)) {
                        ModelJob job = new ModelJob();
                        job.run = run;
                        job.stage = i;
                        job.number = cell;
                        run.jobs.add(job);
                    }
                }
            }
            runs.add(run);
            goFurther(run);
            return run.number;
        }

        void goFurther(ModelRun run) {
            if (run.state == 8 && run.jobs.stream().noneMatch(job -> job.state == 2)) {
                run.state = 5;
            }
            while (run.state == 7 && run.lowestReady() >= 0) {
                int next = run.lowestReady();
                boolean isQueued = run.stages.get(next).direct.stream().allMatch(run::isGood);
                for (ModelJob job : run.of(next)) {
                    job.state = isQueued ? 1 : 6;
                    job.ticket = clock++;
                }
            }
            boolean isOver = run.jobs.stream().allMatch(job -> job.state >= 3);
            if (run.state == 7 && isOver) {
                run.state = run.jobs.stream().allMatch(job -> run.isGood(job.stage)) ? 9 : 10;
            }
        }

        int cancel(int number) {
            ModelRun run = run(number);
            refuse(run.state != 7, "ISE");
            int cancelled = 0;
            for (ModelJob job : run.jobs) {
                if (job.state == 0 || job.state == 1 || job.state == 2 && job.kind().isInterruptible) {
                    job.state = 5;
                    cancelled++;
                    for (int i = 0; i < 4; i++) {
                        workers[i] = workers[i] == job ? null : workers[i];
                    }
                }
            }
            run.state = 8;
            goFurther(run);
            return cancelled;
        }

        int artifacts(int run, int stage) {
            int count = 0;
            for (ModelJob job : run(run).jobs) {
                if (job.state == 3 && run(run).stages.get(stage).direct.contains(job.stage)) {
                    count++;
                }
            }
            return count;
        }

        int take(int worker) {
            refuse(of(worker) != null, "ISE");
            if (queue().isEmpty()) {
                return -1;
            }
            ModelJob job = queue().get(0);
            workers[worker] = job;
            job.state = 2;
            job.attempts++;
            job.restored = job.kind().length == 0 ? -1 : restore(job);
            return job.number;
        }

        List<Integer> key(ModelJob job) {
            List<Integer> key = new ArrayList<>();
            for (int i = 0; i < job.kind().length; i++) {
                key.add(job.run.inputs[i]);
            }
            return key;
        }

        int restore(ModelJob job) {
            List<Integer> key = key(job);
            for (int length = key.size(); length > 0; length--) {
                ModelEntry latest = null;
                for (ModelEntry entry : entries) {
                    if (entry.stage == job.stage && entry.key.subList(0, length).equals(key.subList(0, length))
                            && (latest == null || entry.usedAt > latest.usedAt)) {
                        latest = entry;
                    }
                }
                if (latest != null) {
                    latest.usedAt = clock++;
                    return length;
                }
            }
            return 0;
        }

        int finish(int worker, boolean isPassed) {
            ModelJob job = of(worker);
            refuse(job == null, "ISE");
            workers[worker] = null;
            boolean hadStopped = job.run.hasStopped(job.stage);
            if (isPassed) {
                job.state = 3;
                save(job);
            } else if (job.run.state == 7 && !hadStopped && job.failures < job.kind().retries) {
                job.failures++;
                job.state = 1;
                job.ticket = clock++;
            } else {
                job.state = 4;
                for (ModelJob other : job.run.of(job.stage)) {
                    if (other.state == 1 && job.run.hasStopped(job.stage)) {
                        other.state = 5;
                        other.isStopped = true;
                    }
                }
            }
            goFurther(job.run);
            return job.state;
        }

        void save(ModelJob job) {
            List<Integer> key = key(job);
            if (key.isEmpty() || entries.stream().anyMatch(e -> e.stage == job.stage && e.key.equals(key))) {
                return;
            }
            if (entries.size() == 10) {
                entries.remove(entry(0));
            }
            ModelEntry entry = new ModelEntry();
            entry.stage = job.stage;
            entry.key = key;
            entry.usedAt = clock++;
            entries.add(entry);
        }

        int lose(int worker) {
            ModelJob job = of(worker);
            refuse(job == null, "ISE");
            workers[worker] = null;
            boolean hadStopped = job.run.hasStopped(job.stage);
            if (job.run.state == 7 && !hadStopped) {
                job.state = 1;
                job.ticket = clock++;
            } else {
                job.state = 5;
                job.isStopped = job.run.state == 7;
            }
            goFurther(job.run);
            return job.state;
        }
    }
}
