/**
 * A kernel of tasks in microseconds on several cores. The document (DOC.md) says what each
 * call answers; words in capitals in the comments are the document's terms.
 */
public final class TaskCores {
    private static final int UNKNOWN = -1;
    private static final int OUTSIDE = -2;
    private static final int WRONG_STATE = -3;
    private static final int NO_ROOM = -4;

    private static final int MOST_CORES = 8;
    private static final int MOST_TASKS = 100;
    private static final int MOST_RANK = 255;
    private static final int MOST_ACTIVATIONS = 100;
    private static final int MOST_PARTS = 500;
    private static final int MOST_TOLD = 500;
    private static final int MOST_TIME = 50000;
    private static final int MOST_LENGTH = 10000;
    private static final int MOST_LEVEL = 15;
    private static final int MOST_CODES = 1000;
    private static final int RESOURCES = 32;
    private static final int LOCKS = 16;
    private static final int EVENTS_END = 65536;
    private static final int HIGHEST_LEVEL_PUT_OFF = 7;
    private static final int INTERRUPT_WHO = 1000;

    /** Later than any time that a run can reach, and small enough to be added to one. */
    private static final int NEVER = 1000000;

    /** Above all STEPS of a microsecond: a task does its parts and its end at most once in it. */
    private static final int STEPS_END = 1000;

    private static final int SUSPENDED = 0;
    private static final int READY = 1;
    private static final int RUNNING = 2;
    private static final int WAITING = 3;

    private static final int RUN = 0;
    private static final int ACTIVATE = 1;
    private static final int CHAIN = 2;
    private static final int WAIT = 3;
    private static final int SET = 4;
    private static final int CLEAR = 5;
    private static final int GET = 6;
    private static final int FREE = 7;
    private static final int LOCK = 8;
    private static final int UNLOCK = 9;
    private static final int SCHEDULE = 10;
    private static final int END = 11;
    private static final int OFF = 12;
    private static final int ON = 13;

    /** The least and the greatest v of a part, by its kind. */
    private static final int[] LEAST_VALUE = {1, 1, 1, 1, 65537, 1, 1, 1, 1, 1, 0, 0, 1, 0};
    private static final int[] MOST_VALUE =
        {50000, 100, 100, 65535, 6619135, 65535, 32, 32, 16, 16, 0, 0, 50000, 0};

    private static final int TOO_MANY_ACTIVATIONS = 1;
    private static final int NOT_EXTENDED = 2;
    private static final int ENDED_HOLDING = 3;
    private static final int RESOURCE_MISUSED = 4;
    private static final int NOT_TO_BE_SET = 5;
    private static final int LOCK_MISUSED = 6;
    private static final int OFF_MISUSED = 7;
    private static final int NO_SUCH_TASK = 8;
    private static final int OFF_TOO_LONG = 9;

    private final Task[] tasks = new Task[MOST_TASKS + 1];
    private final Core[] cores;
    private final Resource[] resources = new Resource[RESOURCES + 1];
    private final Lock[] locks = new Lock[LOCKS + 1];
    private final Interrupts interrupts = new Interrupts();
    private final Log codes = new Log(MOST_CODES);
    private final Log switches;
    private Telling nextTelling;
    private int tellingCount;
    private int taskCount;
    private int partCount;
    private int lastTurn;
    private int time;

    public TaskCores(int cores) {
        int count = cores < 1 || cores > MOST_CORES ? 1 : cores;
        this.cores = new Core[count];
        for (int i = 0; i < count; i++) {
            this.cores[i] = new Core(i);
        }
        for (int i = 0; i < resources.length; i++) {
            resources[i] = new Resource();
        }
        for (int i = 0; i < locks.length; i++) {
            locks[i] = new Lock();
        }
        switches = new Log(MOST_TIME * count);
    }

    public int task(int rank, int core, int activations, boolean extended) {
        Core home = coreOf(core);
        if (home == null) {
            return UNKNOWN;
        }
        int bound = extended ? 1 : MOST_ACTIVATIONS;
        if (rank < 0 || rank > MOST_RANK || activations < 1 || activations > bound) {
            return OUTSIDE;
        }
        if (time > 0) {
            return WRONG_STATE;
        }
        if (taskCount >= MOST_TASKS) {
            return NO_ROOM;
        }
        taskCount++;
        Task made = new Task(taskCount, rank, home, activations, extended);
        tasks[taskCount] = made;
        home.addTask(made);
        return taskCount;
    }

    public int part(int task, int kind, long v) {
        Task row = taskOf(task);
        if (row == null) {
            return UNKNOWN;
        }
        if (!mayBePart(kind, v)) {
            return OUTSIDE;
        }
        if (time > 0) {
            return WRONG_STATE;
        }
        if (partCount >= MOST_PARTS) {
            return NO_ROOM;
        }
        partCount++;
        int value = (int) v;
        if (kind == GET) {
            Resource resource = resourceOf(value);
            if (resource != null) {
                resource.ceiling = Math.max(resource.ceiling, row.rank);
            }
        }
        return row.addPart(new Part(kind, value));
    }

    public int manner(int task, boolean full) {
        Task changed = taskOf(task);
        if (changed == null) {
            return UNKNOWN;
        }
        if (time > 0) {
            return WRONG_STATE;
        }
        changed.full = full;
        return 1;
    }

    public int activate(int task, long t) {
        Task told = taskOf(task);
        if (told == null) {
            return UNKNOWN;
        }
        if (!isToCome(t)) {
            return OUTSIDE;
        }
        if (tellingCount >= MOST_TOLD) {
            return NO_ROOM;
        }
        tellingCount++;
        addTelling(new Telling(told, (int) t));
        return 1;
    }

    public int interrupt(int level, long at, long micros) {
        if (level < 1 || level > MOST_LEVEL || !isToCome(at) || micros < 1 || micros > MOST_LENGTH) {
            return OUTSIDE;
        }
        if (interrupts.told >= MOST_TOLD) {
            return NO_ROOM;
        }
        interrupts.add(new Interrupt(level, (int) at, (int) micros));
        return interrupts.told;
    }

    public int run(long micros) {
        if (micros < 0 || micros > MOST_TIME - time) {
            return OUTSIDE;
        }
        int end = time + (int) micros;
        int switched = 0;
        for (int stretch = 0; time < end && stretch < MOST_TIME; stretch++) {
            activateThoseTold();
            takeSteps();
            tellIfOffTooLong();
            for (Core core : cores) {
                choose(core);
            }
            switched += passMicroseconds(quietMicroseconds(end));
        }
        return switched;
    }

    public long now() {
        return time;
    }

    public int running(int core, long t) {
        Core asked = coreOf(core);
        if (asked == null) {
            return UNKNOWN;
        }
        if (t < 0 || t >= time) {
            return OUTSIDE;
        }
        return asked.whoAt((int) t);
    }

    public long used(int task) {
        Task asked = taskOf(task);
        return asked == null ? UNKNOWN : asked.used;
    }

    public int state(int task) {
        Task asked = taskOf(task);
        return asked == null ? UNKNOWN : asked.state;
    }

    public int event(int task, int e) {
        Task told = taskOf(task);
        if (told == null) {
            return UNKNOWN;
        }
        if (e < 1 || e >= EVENTS_END) {
            return OUTSIDE;
        }
        if (!told.mayBeSet()) {
            return WRONG_STATE;
        }
        setEvents(told, e);
        return 1;
    }

    public int events(int task) {
        Task asked = taskOf(task);
        return asked == null ? UNKNOWN : asked.events;
    }

    public int code(int i, int what) {
        return codes.answer(i, what);
    }

    public int order(int i, int what) {
        return switches.answer(i, what);
    }

    public int spin(int core, int lock) {
        Core asked = coreOf(core);
        if (asked == null) {
            return -1000;
        }
        Lock row = lockOf(lock);
        if (row == null) {
            return -2000;
        }
        if (row.owner != null && row.owner.core == asked) {
            return row.owner.number;
        }
        Task first = row.firstInQueueOf(asked);
        return first == null ? 0 : -first.number;
    }

    public int holder(int resource) {
        Resource asked = resourceOf(resource);
        if (asked == null) {
            return OUTSIDE;
        }
        return asked.owner == null ? 0 : asked.owner.number;
    }

    private Core coreOf(int number) {
        return number < 0 || number >= cores.length ? null : cores[number];
    }

    private Task taskOf(int number) {
        return number < 1 || number >= tasks.length ? null : tasks[number];
    }

    private Resource resourceOf(int number) {
        return number < 1 || number >= resources.length ? null : resources[number];
    }

    private Lock lockOf(int number) {
        return number < 1 || number >= locks.length ? null : locks[number];
    }

    private boolean isToCome(long t) {
        return t >= time && t <= MOST_TIME;
    }

    private static boolean mayBePart(int kind, long v) {
        if (kind < 0 || kind >= LEAST_VALUE.length || kind >= MOST_VALUE.length) {
            return false;
        }
        if (v < LEAST_VALUE[kind] || v > MOST_VALUE[kind]) {
            return false;
        }
        return kind != SET || v % EVENTS_END != 0;
    }

    /** Tellings stand by time; those of one time stand in the order of telling. */
    private void addTelling(Telling added) {
        Telling before = null;
        for (Telling at = nextTelling; at != null && at.time <= added.time; at = at.next) {
            before = at;
        }
        if (before == null) {
            added.next = nextTelling;
            nextTelling = added;
        } else {
            added.next = before.next;
            before.next = added;
        }
    }

    private void activateThoseTold() {
        for (Telling at = nextTelling; at != null && at.time <= time; at = at.next) {
            nextTelling = at.next;
            activateTask(at.task);
        }
    }

    private void takeSteps() {
        boolean again = true;
        for (int round = 0; again && round < STEPS_END; round++) {
            again = false;
            for (Core core : cores) {
                Task task = taskWithStep(core);
                for (int step = 0; task != null && step < STEPS_END; step++) {
                    doNextPart(task);
                    task = taskWithStep(core);
                    again = true;
                }
            }
        }
    }

    /** The core's task as chosen now, or null if its next part can't be done without time. */
    private Task taskWithStep(Core core) {
        if (core.number == 0 && interrupts.atHand(time) != null) {
            return null;
        }
        choose(core);
        Task task = core.runner;
        if (task == null || task.part == null) {
            return task;
        }
        Part part = task.part;
        boolean takesTime = part.kind == RUN || part.kind == LOCK && startsToSpin(task, lockOf(part.value));
        return takesTime ? null : task;
    }

    private void choose(Core core) {
        Task before = core.runner;
        if (before != null && !before.full && !core.scheduling) {
            return;
        }
        core.scheduling = false;
        Task chosen = before;
        for (Task task = core.first; task != null; task = task.nextOnCore) {
            if (task.state == READY && (chosen == null || task.comesBefore(chosen))) {
                chosen = task;
            }
        }
        if (chosen == null || chosen == before) {
            return;
        }
        if (before != null) {
            before.state = READY;
        }
        chosen.state = RUNNING;
        core.runner = chosen;
    }

    /** False if the task need not spin: nobody has the lock, or the task itself has it. */
    private static boolean startsToSpin(Task task, Lock lock) {
        if (lock == null || lock.owner == null || lock.owner == task) {
            return false;
        }
        lock.addToQueue(task);
        return true;
    }

    private void doNextPart(Task task) {
        Part part = task.part;
        if (part == null) {
            endTask(task);
            return;
        }
        task.part = part.next;
        int value = part.value;
        switch (part.kind) {
            case ACTIVATE:
                activateByTask(task, value);
                break;
            case CHAIN:
                chain(task, value);
                break;
            case WAIT:
                waitFor(task, value);
                break;
            case SET:
                setByTask(task, value / EVENTS_END, value % EVENTS_END);
                break;
            case CLEAR:
                clearEvents(task, value);
                break;
            case GET:
                getResource(task, resourceOf(value));
                break;
            case FREE:
                freeResource(task, resourceOf(value));
                break;
            case LOCK:
                takeLock(task, lockOf(value));
                break;
            case UNLOCK:
                unlock(task, lockOf(value));
                break;
            case SCHEDULE:
                task.core.scheduling = true;
                break;
            case END:
                endTask(task);
                break;
            case OFF:
                putOff(task, value);
                break;
            case ON:
                putOn(task);
                break;
            default:
                break;
        }
    }

    private void activateByTask(Task task, int number) {
        Task other = taskOf(number);
        if (other == null) {
            tellCode(NO_SUCH_TASK, task);
        } else {
            activateTask(other);
        }
    }

    /**
     * CHAIN to the task itself needs no case of its own: its end takes one from those that are
     * WANTED, if there is one, and activating it then puts that one back.
     */
    private void chain(Task task, int number) {
        Task other = taskOf(number);
        if (other == null) {
            tellCode(NO_SUCH_TASK, task);
        }
        endTask(task);
        if (other != null) {
            activateTask(other);
        }
    }

    private void waitFor(Task task, int awaited) {
        if (!task.extended) {
            tellCode(NOT_EXTENDED, task);
        } else if (task.lastGot != null || task.lockCount > 0) {
            tellCode(RESOURCE_MISUSED, task);
        } else if ((task.events & awaited) == 0) {
            task.awaited = awaited;
            task.state = WAITING;
            task.core.runner = null;
        }
    }

    private void setByTask(Task task, int number, int set) {
        Task other = taskOf(number);
        if (other == null) {
            tellCode(NO_SUCH_TASK, task);
        } else if (!other.mayBeSet()) {
            tellCode(NOT_TO_BE_SET, task);
        } else {
            setEvents(other, set);
        }
    }

    private void clearEvents(Task task, int cleared) {
        if (task.extended) {
            task.events &= ~cleared;
        } else {
            tellCode(NOT_EXTENDED, task);
        }
    }

    private void getResource(Task task, Resource resource) {
        if (resource == null || resource.owner != null) {
            tellCode(RESOURCE_MISUSED, task);
            return;
        }
        resource.owner = task;
        resource.gotBefore = task.lastGot;
        task.lastGot = resource;
    }

    private void freeResource(Task task, Resource resource) {
        if (resource == null || resource != task.lastGot) {
            tellCode(RESOURCE_MISUSED, task);
            return;
        }
        resource.owner = null;
        task.lastGot = resource.gotBefore;
    }

    private void takeLock(Task task, Lock lock) {
        if (lock == null || lock.owner != null) {
            tellCode(LOCK_MISUSED, task);
            return;
        }
        lock.owner = task;
        task.lockCount++;
    }

    private void unlock(Task task, Lock lock) {
        if (lock == null || lock.owner != task) {
            tellCode(LOCK_MISUSED, task);
            return;
        }
        task.lockCount--;
        lock.handOn();
    }

    private void putOff(Task task, int budget) {
        if (task.core.number != 0 || interrupts.offBy != null) {
            tellCode(OFF_MISUSED, task);
            return;
        }
        interrupts.offBy = task;
        interrupts.budgetEnd = time + budget;
    }

    private void putOn(Task task) {
        if (task.core.number != 0 || interrupts.offBy == null) {
            tellCode(OFF_MISUSED, task);
            return;
        }
        interrupts.offBy = null;
    }

    private void setEvents(Task task, int set) {
        task.events |= set;
        if (task.state == WAITING && (task.events & task.awaited) != 0) {
            makeReady(task);
        }
    }

    private void activateTask(Task task) {
        if (task.state == SUSPENDED) {
            startTask(task);
        } else if (1 + task.wanted < task.bound) {
            task.wanted++;
        } else {
            tellCode(TOO_MANY_ACTIVATIONS, task);
        }
    }

    private void endTask(Task task) {
        if (freeAll(task)) {
            tellCode(ENDED_HOLDING, task);
        }
        task.state = SUSPENDED;
        task.core.runner = null;
        if (task.wanted > 0) {
            task.wanted--;
            startTask(task);
        }
    }

    /** True if the task held something. */
    private boolean freeAll(Task task) {
        boolean held = task.lastGot != null || task.lockCount > 0;
        for (Resource at = task.lastGot; at != null; at = at.gotBefore) {
            at.owner = null;
        }
        task.lastGot = null;
        for (Lock lock : locks) {
            if (lock.owner == task) {
                lock.handOn();
            }
        }
        task.lockCount = 0;
        if (interrupts.offBy == task) {
            interrupts.offBy = null;
            held = true;
        }
        return held;
    }

    private void startTask(Task task) {
        task.events = 0;
        task.part = task.start;
        makeReady(task);
    }

    private void makeReady(Task task) {
        lastTurn++;
        task.turn = lastTurn;
        task.state = READY;
    }

    private void tellCode(int code, Task task) {
        codes.add(code, task.number, time);
    }

    private void tellIfOffTooLong() {
        Task task = interrupts.offBy;
        if (task != null && interrupts.budgetEnd == time) {
            tellCode(OFF_TOO_LONG, task);
        }
    }

    /**
     * How many microseconds from now on are all alike: nothing is told for them, and no part or
     * interrupt gets through before the last one's end. They may go by at once.
     */
    private int quietMicroseconds(int end) {
        Interrupt atHand = interrupts.atHand(time);
        int until = Math.min(end, interrupts.nextChange(time));
        if (nextTelling != null) {
            until = Math.min(until, nextTelling.time);
        }
        if (atHand != null) {
            until = Math.min(until, time + atHand.left);
        }
        for (Core core : cores) {
            boolean interrupted = core.number == 0 && atHand != null;
            if (core.runner != null && !interrupted) {
                until = Math.min(until, time + core.runner.leftOfPart());
            }
        }
        return Math.max(1, until - time);
    }

    /** Answers how many SWITCHES there were: all in the first one, since the others are like it. */
    private int passMicroseconds(int length) {
        Interrupt atHand = interrupts.atHand(time);
        int switched = 0;
        for (Core core : cores) {
            Task runner = core.runner;
            int who = runner == null ? 0 : runner.number;
            if (core.number == 0 && atHand != null) {
                who = INTERRUPT_WHO + atHand.level;
            } else if (runner != null) {
                runner.spend(length);
            }
            if (who != core.who) {
                core.noteWho(time, who);
                switches.add(time, core.number, who);
                switched++;
            }
        }
        if (atHand != null) {
            interrupts.serve(atHand, length);
        }
        time += length;
        return switched;
    }

    private static final class Part {
        final int kind;
        final int value;
        Part next;

        Part(int kind, int value) {
            this.kind = kind;
            this.value = value;
        }
    }

    private static final class Task {
        final int number;
        final int rank;
        final Core core;
        final int bound;
        final boolean extended;
        boolean full = true;

        /** START is a RUN of one microsecond before the first part. */
        final Part start = new Part(RUN, 1);

        /** The next part, or the one that it is at; null behind the last one. */
        Part part;

        /** Microseconds of its RUN that went by; 0 in all other parts. */
        int spent;
        int state = SUSPENDED;
        int turn;
        int wanted;
        int events;
        int awaited;
        int used;
        Resource lastGot;
        int lockCount;
        Task nextOnCore;
        Task nextInQueue;

        Task(int number, int rank, Core core, int bound, boolean extended) {
            this.number = number;
            this.rank = rank;
            this.core = core;
            this.bound = bound;
            this.extended = extended;
        }

        /** Answers how many parts there are then, START not counted. */
        int addPart(Part added) {
            int count = 1;
            Part last = start;
            for (Part at = start.next; at != null; at = at.next) {
                last = at;
                count++;
            }
            last.next = added;
            return count;
        }

        boolean mayBeSet() {
            return extended && state != SUSPENDED;
        }

        int height() {
            int height = rank;
            for (Resource at = lastGot; at != null; at = at.gotBefore) {
                height = Math.max(height, at.ceiling);
            }
            return height;
        }

        /** For a task that is READY, and another one that is READY or RUNNING. */
        boolean comesBefore(Task other) {
            int mine = height();
            int others = other.height();
            return mine > others || mine == others && other.state != RUNNING && turn < other.turn;
        }

        int leftOfPart() {
            return part != null && part.kind == RUN ? part.value - spent : NEVER;
        }

        /** A task that SPINS uses time too, but its part gets no nearer to its end. */
        void spend(int length) {
            used += length;
            if (part == null || part.kind != RUN) {
                return;
            }
            spent += length;
            if (spent >= part.value) {
                part = part.next;
                spent = 0;
            }
        }
    }

    private static final class Core {
        final int number;
        final Log seen = new Log(MOST_TIME);
        Task first;
        Task last;
        Task runner;
        int who;

        /** The RUNNING task has just done SCHEDULE: the next choice heeds HEIGHT. */
        boolean scheduling;

        Core(int number) {
            this.number = number;
        }

        void addTask(Task added) {
            if (last == null) {
                first = added;
            } else {
                last.nextOnCore = added;
            }
            last = added;
        }

        void noteWho(int time, int who) {
            this.who = who;
            seen.add(time, who, 0);
        }

        /** WHO of the last SWITCH that is not behind the time. */
        int whoAt(int time) {
            int low = 0;
            int high = seen.count;
            for (int halving = 0; halving < 32 && low < high; halving++) {
                int middle = (low + high) / 2;
                if (seen.answer(middle, 0) <= time) {
                    low = middle + 1;
                } else {
                    high = middle;
                }
            }
            return low == 0 ? 0 : seen.answer(low - 1, 1);
        }
    }

    private static final class Resource {
        int ceiling;
        Task owner;

        /** What the owner had got last when it got this one. */
        Resource gotBefore;
    }

    private static final class Lock {
        Task owner;
        Task firstInQueue;

        /** A task that stands there already keeps its place. */
        void addToQueue(Task added) {
            Task last = null;
            for (Task at = firstInQueue; at != null; at = at.nextInQueue) {
                if (at == added) {
                    return;
                }
                last = at;
            }
            if (last == null) {
                firstInQueue = added;
            } else {
                last.nextInQueue = added;
            }
        }

        Task firstInQueueOf(Core core) {
            for (Task at = firstInQueue; at != null; at = at.nextInQueue) {
                if (at.core == core) {
                    return at;
                }
            }
            return null;
        }

        /** The first one of the QUEUE has the lock, and its LOCK is done; or nobody has it. */
        void handOn() {
            Task next = firstInQueue;
            owner = next;
            if (next == null) {
                return;
            }
            firstInQueue = next.nextInQueue;
            next.nextInQueue = null;
            next.lockCount++;
            if (next.part != null) {
                next.part = next.part.next;
            }
        }
    }

    /** An activation that was told for a time. */
    private static final class Telling {
        final Task task;
        final int time;
        Telling next;

        Telling(Task task, int time) {
            this.task = task;
            this.time = time;
        }
    }

    private static final class Interrupt {
        final int level;
        final int at;
        int left;
        Interrupt next;

        Interrupt(int level, int at, int left) {
            this.level = level;
            this.at = at;
            this.left = left;
        }
    }

    /** The interrupts that are not through: the highest level first, those of one level as told. */
    private static final class Interrupts {
        Interrupt first;
        int told;

        /** The task that put levels up to 7 OFF; null if they are ON. */
        Task offBy;
        int budgetEnd;

        void add(Interrupt added) {
            told++;
            Interrupt before = null;
            for (Interrupt at = first; at != null && at.level >= added.level; at = at.next) {
                before = at;
            }
            if (before == null) {
                added.next = first;
                first = added;
            } else {
                added.next = before.next;
                before.next = added;
            }
        }

        Interrupt atHand(int time) {
            for (Interrupt at = first; at != null; at = at.next) {
                if (at.at <= time && (offBy == null || at.level > HIGHEST_LEVEL_PUT_OFF)) {
                    return at;
                }
            }
            return null;
        }

        /** The next time at which an interrupt comes or the budget of OFF is over. */
        int nextChange(int time) {
            int change = offBy != null && budgetEnd > time ? budgetEnd : NEVER;
            for (Interrupt at = first; at != null; at = at.next) {
                if (at.at > time) {
                    change = Math.min(change, at.at);
                }
            }
            return change;
        }

        void serve(Interrupt served, int length) {
            served.left -= length;
            if (served.left > 0) {
                return;
            }
            if (first == served) {
                first = served.next;
                return;
            }
            for (Interrupt at = first; at != null; at = at.next) {
                if (at.next == served) {
                    at.next = served.next;
                    return;
                }
            }
        }
    }

    /**
     * Rows of three small numbers, each row in one long. It counts all rows and keeps the first
     * ones, in blocks that are made when they are needed, so that an idle object stays small.
     */
    private static final class Log {
        private static final int BLOCK = 512;
        private static final int BITS = 20;
        private static final int MASK = 0xFFFFF;

        final long[][] blocks;
        final int capacity;
        int count;

        Log(int capacity) {
            this.capacity = Math.max(0, capacity);
            blocks = new long[this.capacity / BLOCK + 1][];
        }

        void add(int first, int second, int third) {
            int i = count;
            count++;
            int b = i / BLOCK;
            if (i < 0 || i >= capacity || b >= blocks.length) {
                return;
            }
            if (blocks[b] == null) {
                blocks[b] = new long[BLOCK];
            }
            blocks[b][i % BLOCK] = (long) first << 2 * BITS | (long) second << BITS | third;
        }

        int answer(int i, int what) {
            if (i == -1 && what == 0) {
                return count;
            }
            if (i < 0 || i >= count || i >= capacity || i / BLOCK >= blocks.length) {
                return UNKNOWN;
            }
            if (what < 0 || what > 2) {
                return OUTSIDE;
            }
            long[] block = blocks[i / BLOCK];
            return block == null ? UNKNOWN : (int) (block[i % BLOCK] >> (2 - what) * BITS & MASK);
        }
    }
}
