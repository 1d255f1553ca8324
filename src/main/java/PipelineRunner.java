import java.util.ArrayList;

/**
 * A runner of build pipelines: stages that need one another, each with a matrix of jobs; runs of
 * all stages, started by pushes; a queue and four workers; and caches found again by their keys.
 */
public final class PipelineRunner {
    public static final int NONE = -1;
    public static final int WAITING = 0;
    public static final int QUEUED = 1;
    public static final int RUNNING = 2;
    public static final int PASSED = 3;
    public static final int FAILED = 4;
    public static final int CANCELLED = 5;
    public static final int SKIPPED = 6;
    public static final int GOING = 7;
    public static final int CANCELLING = 8;
    public static final int GOOD = 9;
    public static final int BAD = 10;

    private static final int MOST_STAGES = 8;
    private static final int LONGEST_SIDE = 4;
    private static final int MOST_JOBS = LONGEST_SIDE * LONGEST_SIDE;
    private static final int MOST_RETRIES = 2;
    private static final int INPUTS = 3;
    private static final int HIGHEST_INPUT = 99;
    private static final int BRANCHES = 4;
    private static final int MOST_RUNS = 80;
    private static final int MOST_RUNS_THAT_GO_ON = 6;
    private static final int WORKERS = 4;
    private static final int MOST_ENTRIES = 10;

    private final ArrayList<Stage> stageList;
    private final ArrayList<Run> runList;
    private final ArrayList<Job> queue;
    /** The job of each worker; null for one that is free. */
    private final Job[] workerJobs;
    private final Cache cache;

    public PipelineRunner() {
        stageList = new ArrayList<Stage>();
        runList = new ArrayList<Run>();
        queue = new ArrayList<Job>();
        workerJobs = new Job[WORKERS];
        cache = new Cache();
    }

    // ---- stages

    public int addStage(int rows, int columns) throws IllegalArgumentException, IllegalStateException {
        if (rows < 1 || rows > LONGEST_SIDE || columns < 1 || columns > LONGEST_SIDE) {
            throw new IllegalArgumentException("rows or columns out of range");
        }
        refuseWhileRunsGoOn();
        if (stageList.size() >= MOST_STAGES) {
            throw new IllegalStateException("no room for another stage");
        }
        Stage stage = new Stage(stageList.size(), rows, columns);
        stageList.add(stage);
        return stage.number;
    }

    public int need(int stage, int other) throws IndexOutOfBoundsException, IllegalStateException {
        Stage needing = stageAt(stage);
        Stage needed = stageAt(other);
        refuseWhileRunsGoOn();
        if (stage == other || needing.needsDirectly(other) || reaches(needed, stage)) {
            throw new IllegalStateException("the need is there already or would close a circle");
        }
        needing.directNeeds |= 1 << other;
        return Integer.bitCount(needing.directNeeds);
    }

    public int exclude(int stage, int row, int column) throws IndexOutOfBoundsException, IllegalStateException {
        Stage changed = stageAt(stage);
        if (row < 0 || row >= changed.rows || column < 0 || column >= changed.columns) {
            throw new IndexOutOfBoundsException("no such row or column");
        }
        refuseWhileRunsGoOn();
        int job = row * changed.columns + column;
        if (!changed.hasJob(job) || changed.countJobs() == 1) {
            throw new IllegalStateException("the job is excluded or the last one");
        }
        changed.excluded |= 1 << job;
        return changed.countJobs();
    }

    public int setStage(int stage, int retries, int length)
            throws IndexOutOfBoundsException, IllegalArgumentException, IllegalStateException {
        Stage changed = stageAt(stage);
        if (retries < 0 || retries > MOST_RETRIES || length < 0 || length > INPUTS) {
            throw new IllegalArgumentException("retries or length out of range");
        }
        refuseWhileRunsGoOn();
        boolean isNewLength = length != changed.keyLength;
        changed.retries = retries;
        changed.keyLength = length;
        return isNewLength ? cache.dropAllOf(stage) : 0;
    }

    public void setMarks(int stage, boolean stopsFast, boolean mayFail, boolean isInterruptible)
            throws IndexOutOfBoundsException, IllegalStateException {
        Stage changed = stageAt(stage);
        refuseWhileRunsGoOn();
        changed.stopsFast = stopsFast;
        changed.mayFail = mayFail;
        changed.isInterruptible = isInterruptible;
    }

    public int stages() {
        return stageList.size();
    }

    public int jobs(int stage) throws IndexOutOfBoundsException {
        return stageAt(stage).countJobs();
    }

    public boolean needs(int stage, int other) throws IndexOutOfBoundsException {
        Stage needing = stageAt(stage);
        Stage needed = stageAt(other);
        return reaches(needing, needed.number);
    }

    // ---- runs

    public int push(int branch, int first, int second, int third)
            throws IndexOutOfBoundsException, IllegalArgumentException, IllegalStateException {
        if (branch < 0 || branch >= BRANCHES) {
            throw new IndexOutOfBoundsException("no such branch");
        }
        if (!isInput(first) || !isInput(second) || !isInput(third)) {
            throw new IllegalArgumentException("an input out of range");
        }
        if (stageList.isEmpty() || runList.size() >= MOST_RUNS || countRunsThatGoOn() >= MOST_RUNS_THAT_GO_ON) {
            throw new IllegalStateException("no stage, or no room for another run");
        }
        cancelOlderRunOf(branch);
        Run run = new Run(runList.size(), branch, new int[] {first, second, third});
        for (int i = 0; i < stageList.size(); i++) {
            run.addPart(stageList.get(i));
        }
        runList.add(run);
        advance(run);
        return run.number;
    }

    public int cancel(int run) throws IndexOutOfBoundsException, IllegalStateException {
        Run cancelled = runAt(run);
        if (cancelled.state != GOING) {
            throw new IllegalStateException("the run is not going");
        }
        return cancelGoing(cancelled);
    }

    public int runs() {
        return runList.size();
    }

    public int state(int run) throws IndexOutOfBoundsException {
        return runAt(run).state;
    }

    public int jobState(int run, int stage, int job) throws IndexOutOfBoundsException {
        return jobAt(run, stage, job).state;
    }

    public int attempts(int run, int stage, int job) throws IndexOutOfBoundsException {
        return jobAt(run, stage, job).timesTaken;
    }

    public int restored(int run, int stage, int job) throws IndexOutOfBoundsException {
        return jobAt(run, stage, job).restoredInputs;
    }

    public boolean isGood(int run, int stage) throws IndexOutOfBoundsException {
        return partAt(run, stage).endedWell();
    }

    public int artifacts(int run, int stage) throws IndexOutOfBoundsException {
        Part part = partAt(run, stage);
        ArrayList<Part> parts = part.run.parts;
        int passed = 0;
        for (int i = 0; i < parts.size(); i++) {
            if (part.stage.needsDirectly(i)) {
                passed += parts.get(i).countIn(PASSED);
            }
        }
        return passed;
    }

    // ---- queue and workers

    public int queued() {
        return queue.size();
    }

    public int queuedRun(int place) throws IndexOutOfBoundsException {
        return queuedAt(place).part.run.number;
    }

    public int queuedStage(int place) throws IndexOutOfBoundsException {
        return queuedAt(place).part.stage.number;
    }

    public int take(int worker) throws IndexOutOfBoundsException, IllegalStateException {
        refuseUnknownWorker(worker);
        if (workerJobs[worker] != null) {
            throw new IllegalStateException("the worker is not free");
        }
        if (queue.isEmpty()) {
            return NONE;
        }
        Job job = queue.remove(0);
        workerJobs[worker] = job;
        job.state = RUNNING;
        job.timesTaken++;
        job.restoredInputs = cache.restore(job.part.stage, job.part.run.inputs);
        return job.number;
    }

    public int finish(int worker, boolean isPassed) throws IndexOutOfBoundsException, IllegalStateException {
        Job job = jobOfWorker(worker);
        workerJobs[worker] = null;
        if (isPassed) {
            job.state = PASSED;
            cache.store(job.part.stage, job.part.run.inputs);
        } else {
            fail(job);
        }
        settle(job.part.run);
        return job.state;
    }

    public int lose(int worker) throws IndexOutOfBoundsException, IllegalStateException {
        Job job = jobOfWorker(worker);
        Run run = job.part.run;
        workerJobs[worker] = null;
        if (run.state == GOING && !job.part.hasStopped()) {
            enqueue(job);
        } else {
            job.state = CANCELLED;
            job.isStoppedByStage = run.state == GOING;
        }
        settle(run);
        return job.state;
    }

    public int workerRun(int worker) throws IndexOutOfBoundsException {
        refuseUnknownWorker(worker);
        Job job = workerJobs[worker];
        return job == null ? NONE : job.part.run.number;
    }

    public int workerStage(int worker) throws IndexOutOfBoundsException {
        refuseUnknownWorker(worker);
        Job job = workerJobs[worker];
        return job == null ? NONE : job.part.stage.number;
    }

    // ---- caches

    public int entries() {
        return cache.entryList.size();
    }

    public int entryStage(int place) throws IndexOutOfBoundsException {
        return entryAt(place).stage;
    }

    public int entryInput(int place, int input) throws IndexOutOfBoundsException {
        Entry entry = entryAt(place);
        if (input < 0 || input >= INPUTS) {
            throw new IndexOutOfBoundsException("no such input");
        }
        return input < entry.length && input < entry.inputs.length ? entry.inputs[input] : NONE;
    }

    // ---- what is asked for, or an exception

    private Stage stageAt(int stage) {
        if (stage < 0 || stage >= stageList.size()) {
            throw new IndexOutOfBoundsException("no such stage");
        }
        return stageList.get(stage);
    }

    private Run runAt(int run) {
        if (run < 0 || run >= runList.size()) {
            throw new IndexOutOfBoundsException("no such run");
        }
        return runList.get(run);
    }

    private Part partAt(int run, int stage) {
        ArrayList<Part> parts = runAt(run).parts;
        if (stage < 0 || stage >= parts.size()) {
            throw new IndexOutOfBoundsException("no such stage in the run");
        }
        return parts.get(stage);
    }

    private Job jobAt(int run, int stage, int job) {
        Job[] slots = partAt(run, stage).slots;
        if (job < 0 || job >= slots.length || slots[job] == null) {
            throw new IndexOutOfBoundsException("no such job in the stage");
        }
        return slots[job];
    }

    private Job queuedAt(int place) {
        if (place < 0 || place >= queue.size()) {
            throw new IndexOutOfBoundsException("no such place in the queue");
        }
        return queue.get(place);
    }

    private Job jobOfWorker(int worker) {
        refuseUnknownWorker(worker);
        Job job = workerJobs[worker];
        if (job == null) {
            throw new IllegalStateException("the worker is free");
        }
        return job;
    }

    private Entry entryAt(int place) {
        if (place < 0 || place >= cache.entryList.size()) {
            throw new IndexOutOfBoundsException("no such cache entry");
        }
        return cache.entryList.get(place);
    }

    private void refuseUnknownWorker(int worker) {
        if (worker < 0 || worker >= workerJobs.length) {
            throw new IndexOutOfBoundsException("no such worker");
        }
    }

    private void refuseWhileRunsGoOn() {
        if (countRunsThatGoOn() > 0) {
            throw new IllegalStateException("a run goes on");
        }
    }

    private static boolean isInput(int input) {
        return input >= 0 && input <= HIGHEST_INPUT;
    }

    // ---- how runs go on

    private int countRunsThatGoOn() {
        int count = 0;
        for (int i = 0; i < runList.size(); i++) {
            int state = runList.get(i).state;
            if (state == GOING || state == CANCELLING) {
                count++;
            }
        }
        return count;
    }

    /** Whether a stage needs the stage of this number, directly or over others. */
    private boolean reaches(Stage from, int target) {
        int reached = from.directNeeds;
        // A way over needs is never longer than there are stages, so as many rounds find them all.
        for (int round = 0; round < stageList.size(); round++) {
            for (int i = 0; i < stageList.size(); i++) {
                if ((reached >> i & 1) != 0) {
                    reached |= stageList.get(i).directNeeds;
                }
            }
        }
        return (reached >> target & 1) != 0;
    }

    /** Queues or skips the stages whose needs are over, and ends the run when all stages are. */
    private void advance(Run run) {
        for (int i = 0; i < MOST_STAGES; i++) {
            Part part = run.lowestReady();
            if (part == null) {
                break;
            }
            startOrSkip(part);
        }
        if (run.isOver()) {
            run.state = run.endedWell() ? GOOD : BAD;
        }
    }

    private void startOrSkip(Part part) {
        boolean isStarted = part.run.needsEndedWell(part.stage);
        for (int i = 0; i < part.slots.length; i++) {
            Job job = part.slots[i];
            if (job == null) {
                continue;
            }
            if (isStarted) {
                enqueue(job);
            } else {
                job.state = SKIPPED;
            }
        }
    }

    private void enqueue(Job job) {
        job.state = QUEUED;
        queue.add(job);
    }

    private void fail(Job job) {
        Part part = job.part;
        boolean isTriedAgain = part.run.state == GOING && !part.hasStopped() && job.failures < part.stage.retries;
        job.failures++;
        if (isTriedAgain) {
            enqueue(job);
            return;
        }
        job.state = FAILED;
        if (part.hasStopped()) {
            part.cancelQueuedBecauseStopped();
            dropCancelledFromQueue();
        }
    }

    /** Draws the run's consequences of a job that a worker has just given back. */
    private void settle(Run run) {
        if (run.state == GOING) {
            advance(run);
        } else {
            endIfCancelled(run);
        }
    }

    private void endIfCancelled(Run run) {
        if (run.state == CANCELLING && !run.hasRunning()) {
            run.state = CANCELLED;
        }
    }

    private void cancelOlderRunOf(int branch) {
        for (int i = 0; i < runList.size(); i++) {
            Run run = runList.get(i);
            if (run.branch == branch && run.state == GOING) {
                cancelGoing(run);
            }
        }
    }

    private int cancelGoing(Run run) {
        run.state = CANCELLING;
        int cancelled = run.cancelJobs();
        dropCancelledFromQueue();
        freeWorkersOfCancelled();
        endIfCancelled(run);
        return cancelled;
    }

    private void dropCancelledFromQueue() {
        int kept = 0;
        for (int i = 0; i < queue.size(); i++) {
            Job job = queue.get(i);
            if (job.state == QUEUED) {
                queue.set(kept, job);
                kept++;
            }
        }
        for (int last = queue.size() - 1; last >= kept; last--) {
            queue.remove(last);
        }
    }

    private void freeWorkersOfCancelled() {
        for (int i = 0; i < workerJobs.length; i++) {
            Job job = workerJobs[i];
            if (job != null && job.state == CANCELLED) {
                workerJobs[i] = null;
            }
        }
    }

    /** A stage as the calls have written it; each run has copies of its own. */
    private static final class Stage {
        final int number;
        final int rows;
        final int columns;
        /** A bit for each excluded job, the lowest for the job 0. */
        int excluded;
        /** A bit for each stage that it needs directly, the lowest for the stage 0. */
        int directNeeds;
        int retries;
        int keyLength;
        boolean stopsFast;
        boolean mayFail;
        boolean isInterruptible;

        Stage(int number, int rows, int columns) {
            this.number = number;
            this.rows = rows;
            this.columns = columns;
            this.isInterruptible = true;
        }

        Stage copied() {
            Stage copy = new Stage(number, rows, columns);
            copy.excluded = excluded;
            copy.directNeeds = directNeeds;
            copy.retries = retries;
            copy.keyLength = keyLength;
            copy.stopsFast = stopsFast;
            copy.mayFail = mayFail;
            copy.isInterruptible = isInterruptible;
            return copy;
        }

        boolean hasJob(int job) {
            return job >= 0 && job < rows * columns && (excluded >> job & 1) == 0;
        }

        int countJobs() {
            return rows * columns - Integer.bitCount(excluded);
        }

        boolean needsDirectly(int other) {
            return (directNeeds >> other & 1) != 0;
        }
    }

    /** A push's run of all the stages that there were. */
    private static final class Run {
        final int number;
        final int branch;
        final int[] inputs;
        final ArrayList<Part> parts;
        int state;

        Run(int number, int branch, int[] inputs) {
            this.number = number;
            this.branch = branch;
            this.inputs = inputs;
            this.parts = new ArrayList<Part>();
            this.state = GOING;
        }

        void addPart(Stage stage) {
            Part part = new Part(this, stage.copied());
            part.makeJobs();
            parts.add(part);
        }

        /** The lowest stage that waits though its needs are over; null if there is none. */
        Part lowestReady() {
            for (int i = 0; i < parts.size(); i++) {
                Part part = parts.get(i);
                if (part.countIn(WAITING) > 0 && needsAreOver(part.stage)) {
                    return part;
                }
            }
            return null;
        }

        boolean needsAreOver(Stage stage) {
            for (int i = 0; i < parts.size(); i++) {
                if (stage.needsDirectly(i) && !parts.get(i).isOver()) {
                    return false;
                }
            }
            return true;
        }

        boolean needsEndedWell(Stage stage) {
            for (int i = 0; i < parts.size(); i++) {
                if (stage.needsDirectly(i) && !parts.get(i).endedWell()) {
                    return false;
                }
            }
            return true;
        }

        boolean isOver() {
            for (int i = 0; i < parts.size(); i++) {
                if (!parts.get(i).isOver()) {
                    return false;
                }
            }
            return true;
        }

        boolean endedWell() {
            for (int i = 0; i < parts.size(); i++) {
                if (!parts.get(i).endedWell()) {
                    return false;
                }
            }
            return true;
        }

        boolean hasRunning() {
            for (int i = 0; i < parts.size(); i++) {
                if (parts.get(i).countIn(RUNNING) > 0) {
                    return true;
                }
            }
            return false;
        }

        int cancelJobs() {
            int cancelled = 0;
            for (int i = 0; i < parts.size(); i++) {
                cancelled += parts.get(i).cancelWithRun();
            }
            return cancelled;
        }
    }

    /** A stage of one run, with its jobs. */
    private static final class Part {
        final Run run;
        final Stage stage;
        /** The jobs by their numbers; null where there is none, or an excluded one. */
        final Job[] slots;

        Part(Run run, Stage stage) {
            this.run = run;
            this.stage = stage;
            this.slots = new Job[MOST_JOBS];
        }

        void makeJobs() {
            for (int i = 0; i < slots.length; i++) {
                if (stage.hasJob(i)) {
                    slots[i] = new Job(this, i);
                }
            }
        }

        int countIn(int state) {
            int count = 0;
            for (int i = 0; i < slots.length; i++) {
                Job job = slots[i];
                if (job != null && job.state == state) {
                    count++;
                }
            }
            return count;
        }

        boolean isOver() {
            for (int i = 0; i < slots.length; i++) {
                Job job = slots[i];
                if (job != null && !job.isOver()) {
                    return false;
                }
            }
            return true;
        }

        boolean endedWell() {
            for (int i = 0; i < slots.length; i++) {
                Job job = slots[i];
                if (job != null && !job.endedWell(stage.mayFail)) {
                    return false;
                }
            }
            return true;
        }

        boolean hasStopped() {
            return stage.stopsFast && countIn(FAILED) > 0;
        }

        void cancelQueuedBecauseStopped() {
            for (int i = 0; i < slots.length; i++) {
                Job job = slots[i];
                if (job != null && job.state == QUEUED) {
                    job.state = CANCELLED;
                    job.isStoppedByStage = true;
                }
            }
        }

        /** Cancels what the run's end ends here, and returns how many jobs that were. */
        int cancelWithRun() {
            int cancelled = 0;
            for (int i = 0; i < slots.length; i++) {
                Job job = slots[i];
                if (job != null && job.endsWithRun(stage.isInterruptible)) {
                    job.state = CANCELLED;
                    cancelled++;
                }
            }
            return cancelled;
        }
    }

    /** A job of a stage of one run. */
    private static final class Job {
        final Part part;
        final int number;
        int state;
        int timesTaken;
        int failures;
        int restoredInputs;
        /** Whether it is CANCELLED because its stage had stopped, not because its run was cancelled. */
        boolean isStoppedByStage;

        Job(Part part, int number) {
            this.part = part;
            this.number = number;
            this.state = WAITING;
            this.restoredInputs = NONE;
        }

        boolean isOver() {
            return state == PASSED || state == FAILED || state == CANCELLED || state == SKIPPED;
        }

        boolean endedWell(boolean mayFail) {
            if (state == PASSED) {
                return true;
            }
            return mayFail && (state == FAILED || state == CANCELLED && isStoppedByStage);
        }

        boolean endsWithRun(boolean isInterruptible) {
            return state == WAITING || state == QUEUED || state == RUNNING && isInterruptible;
        }
    }

    /** The cache entries, in the order of their latest uses, the longest ago first. */
    private static final class Cache {
        final ArrayList<Entry> entryList;

        Cache() {
            entryList = new ArrayList<Entry>();
        }

        /** Uses the entry nearest to a job's key; returns how many inputs it restores, NONE without a key. */
        int restore(Stage stage, int[] inputs) {
            if (stage.keyLength == 0) {
                return NONE;
            }
            int most = 0;
            int found = NONE;
            for (int i = 0; i < entryList.size(); i++) {
                int common = entryList.get(i).countInCommon(stage.number, inputs);
                // Of equals the later one wins: it was used later.
                if (common > 0 && common >= most) {
                    most = common;
                    found = i;
                }
            }
            if (found >= 0 && found < entryList.size()) {
                entryList.add(entryList.remove(found));
            }
            return most;
        }

        /** Makes an entry for a passed job's key, if it has one and no entry has it. */
        void store(Stage stage, int[] inputs) {
            if (stage.keyLength == 0) {
                return;
            }
            for (int i = 0; i < entryList.size(); i++) {
                if (entryList.get(i).countInCommon(stage.number, inputs) == stage.keyLength) {
                    return;
                }
            }
            if (entryList.size() >= MOST_ENTRIES) {
                entryList.remove(0);
            }
            entryList.add(new Entry(stage.number, stage.keyLength, inputs));
        }

        int dropAllOf(int stage) {
            int dropped = 0;
            for (int i = entryList.size() - 1; i >= 0; i--) {
                if (entryList.get(i).stage == stage) {
                    entryList.remove(i);
                    dropped++;
                }
            }
            return dropped;
        }
    }

    /** A cache entry; its key is the first inputs, as many as its length tells. */
    private static final class Entry {
        final int stage;
        final int length;
        final int[] inputs;

        Entry(int stage, int length, int[] inputs) {
            this.stage = stage;
            this.length = length;
            this.inputs = inputs;
        }

        /** How many inputs its key has in common, from the first on; 0 for a job of another stage. */
        int countInCommon(int jobStage, int[] jobInputs) {
            if (jobStage != stage) {
                return 0;
            }
            int most = Math.min(length, Math.min(inputs.length, jobInputs.length));
            int common = 0;
            while (common < most && inputs[common] == jobInputs[common]) {
                common++;
            }
            return common;
        }
    }
}
