import java.util.ArrayDeque;
import java.util.ArrayList;
import java.util.Arrays;
import java.util.Deque;
import java.util.List;

/**
 * The document once more, as plainly as it can be written: one microsecond after the other, and
 * every list looked through anew.
 */
final class PlainKernel {
    static final int SUSPENDED = 0;
    static final int READY = 1;
    static final int RUNNING = 2;
    static final int WAITING = 3;

    static final class Task {
        int number;
        int rank;
        int core;
        int bound;
        boolean extended;
        boolean full = true;
        boolean schedules;
        List<long[]> parts = new ArrayList<>();
        int state;
        int turn;
        int wanted;
        int events;
        int awaited;
        boolean started;
        int at;
        long ran;
        long used;
        Deque<Integer> resources = new ArrayDeque<>();
    }

    final int cores;
    final List<Task> tasks = new ArrayList<>();
    final List<long[]> told = new ArrayList<>();
    final List<long[]> interrupts = new ArrayList<>();
    final List<int[]> codes = new ArrayList<>();
    final List<int[]> switches = new ArrayList<>();
    final List<int[]> whos = new ArrayList<>();
    final Task[] lockOwners = new Task[17];
    final List<List<Task>> queues = new ArrayList<>();
    int now;
    int turns;
    Task offBy;
    int offSince;
    int budget;

    PlainKernel(int cores) {
        this.cores = cores >= 1 && cores <= 8 ? cores : 1;
        for (int i = 0; i < 17; i++) {
            queues.add(new ArrayList<>());
        }
    }

    int task(int rank, int core, int activations, boolean extended) {
        if (!isCore(core)) {
            return -1;
        }
        if (!within(rank, 0, 255) || !within(activations, 1, 100) || extended && activations > 1) {
            return -2;
        }
        if (now > 0) {
            return -3;
        }
        if (tasks.size() == 100) {
            return -4;
        }
        Task t = new Task();
        t.number = tasks.size() + 1;
        t.rank = rank;
        t.core = core;
        t.bound = activations;
        t.extended = extended;
        tasks.add(t);
        return t.number;
    }

    int part(int task, int kind, long v) {
        if (!isTask(task)) {
            return -1;
        }
        if (!mayBeThere(kind, v)) {
            return -2;
        }
        if (now > 0) {
            return -3;
        }
        int count = 0;
        for (Task t : tasks) {
            count += t.parts.size();
        }
        if (count == 500) {
            return -4;
        }
        tasks.get(task - 1).parts.add(new long[] {kind, v});
        return tasks.get(task - 1).parts.size();
    }

    private static boolean mayBeThere(int kind, long v) {
        if (kind == 0 || kind == 12) {
            return within(v, 1, 50000);
        }
        if (kind == 1 || kind == 2) {
            return within(v, 1, 100);
        }
        if (kind == 3 || kind == 5) {
            return within(v, 1, 65535);
        }
        if (kind == 4) {
            return v > 0 && within(v / 65536, 1, 100) && v % 65536 != 0;
        }
        if (kind == 6 || kind == 7) {
            return within(v, 1, 32);
        }
        if (kind == 8 || kind == 9) {
            return within(v, 1, 16);
        }
        return (kind == 10 || kind == 11 || kind == 13) && v == 0;
    }

    int manner(int task, boolean full) {
        if (!isTask(task)) {
            return -1;
        }
        if (now > 0) {
            return -3;
        }
        tasks.get(task - 1).full = full;
        return 1;
    }

    int activate(int task, long t) {
        if (!isTask(task)) {
            return -1;
        }
        if (!within(t, now, 50000)) {
            return -2;
        }
        if (told.size() == 500) {
            return -4;
        }
        told.add(new long[] {task, t});
        return 1;
    }

    int interrupt(int level, long at, long micros) {
        if (!within(level, 1, 15) || !within(at, now, 50000) || !within(micros, 1, 10000)) {
            return -2;
        }
        if (interrupts.size() == 500) {
            return -4;
        }
        interrupts.add(new long[] {level, at, micros});
        return interrupts.size();
    }

    int run(long micros) {
        if (!within(micros, 0, 50000 - now)) {
            return -2;
        }
        int before = switches.size();
        for (long i = 0; i < micros; i++) {
            microsecond();
        }
        return switches.size() - before;
    }

    long now() {
        return now;
    }

    int running(int core, long t) {
        if (!isCore(core)) {
            return -1;
        }
        return within(t, 0, now - 1) ? whos.get((int) t)[core] : -2;
    }

    long used(int task) {
        return isTask(task) ? tasks.get(task - 1).used : -1;
    }

    int state(int task) {
        return isTask(task) ? tasks.get(task - 1).state : -1;
    }

    int event(int task, int e) {
        if (!isTask(task)) {
            return -1;
        }
        if (!within(e, 1, 65535)) {
            return -2;
        }
        Task t = tasks.get(task - 1);
        if (!t.extended || t.state == SUSPENDED) {
            return -3;
        }
        set(t, e);
        return 1;
    }

    int events(int task) {
        return isTask(task) ? tasks.get(task - 1).events : -1;
    }

    int code(int i, int what) {
        return i >= 1000 ? -1 : row(codes, i, what);
    }

    int order(int i, int what) {
        return row(switches, i, what);
    }

    private static int row(List<int[]> rows, int i, int what) {
        if (i == -1 && what == 0) {
            return rows.size();
        }
        if (!within(i, 0, rows.size() - 1)) {
            return -1;
        }
        return within(what, 0, 2) ? rows.get(i)[what] : -2;
    }

    int spin(int core, int lock) {
        if (!isCore(core)) {
            return -1000;
        }
        if (!within(lock, 1, 16)) {
            return -2000;
        }
        if (lockOwners[lock] != null && lockOwners[lock].core == core) {
            return lockOwners[lock].number;
        }
        for (Task t : queues.get(lock)) {
            if (t.core == core) {
                return -t.number;
            }
        }
        return 0;
    }

    int holder(int resource) {
        if (!within(resource, 1, 32)) {
            return -2;
        }
        for (Task t : tasks) {
            if (t.resources.contains(resource)) {
                return t.number;
            }
        }
        return 0;
    }

    private static boolean within(long number, long least, long most) {
        return number >= least && number <= most;
    }

    private boolean isCore(int core) {
        return within(core, 0, cores - 1);
    }

    private boolean isTask(int task) {
        return within(task, 1, tasks.size());
    }

    private void microsecond() {
        for (long[] a : told) {
            if (a[1] == now) {
                activating(tasks.get((int) a[0] - 1));
            }
        }
        boolean again = true;
        while (again) {
            again = false;
            for (int core = 0; core < cores; core++) {
                while (step(core)) {
                    again = true;
                }
            }
        }
        if (offBy != null && now == offSince + budget) {
            tell(9, offBy);
        }
        int[] who = new int[cores];
        for (int core = 0; core < cores; core++) {
            Task t = chosen(core);
            who[core] = t == null ? 0 : t.number;
        }
        long[] hand = atHand();
        if (hand != null) {
            hand[2]--;
            who[0] = 1000 + (int) hand[0];
        }
        for (int core = 0; core < cores; core++) {
            if (who[core] > 0 && who[core] < 1000) {
                goesBy(tasks.get(who[core] - 1));
            }
            int last = now == 0 ? 0 : whos.get(now - 1)[core];
            if (last != who[core]) {
                switches.add(new int[] {now, core, who[core]});
            }
        }
        whos.add(who);
        now++;
    }

    private void goesBy(Task t) {
        t.used++;
        if (!t.started) {
            t.started = true;
            return;
        }
        long[] part = t.parts.get(t.at);
        if (part[0] == 0) {
            t.ran++;
            if (t.ran == part[1]) {
                t.at++;
                t.ran = 0;
            }
        } else if (part[0] != 8) {
            throw new IllegalStateException("time goes by in a part without time");
        }
    }

    private long[] atHand() {
        long[] best = null;
        for (long[] i : interrupts) {
            boolean off = offBy != null && i[0] <= 7;
            if (i[1] <= now && i[2] > 0 && !off && (best == null || i[0] > best[0])) {
                best = i;
            }
        }
        return best;
    }

    private int height(Task t) {
        int height = t.rank;
        for (int resource : t.resources) {
            for (Task other : tasks) {
                for (long[] part : other.parts) {
                    if (part[0] == 6 && part[1] == resource) {
                        height = Math.max(height, other.rank);
                    }
                }
            }
        }
        return height;
    }

    private Task chosen(int core) {
        Task running = null;
        List<Task> all = new ArrayList<>();
        for (Task t : tasks) {
            if (t.core == core && (t.state == READY || t.state == RUNNING)) {
                all.add(t);
                running = t.state == RUNNING ? t : running;
            }
        }
        if (running != null && !running.full && !running.schedules) {
            return running;
        }
        if (running != null) {
            running.schedules = false;
        }
        all.sort((a, b) -> {
            if (height(a) != height(b)) {
                return height(b) - height(a);
            }
            if (a.state != b.state) {
                return b.state - a.state;
            }
            return a.turn - b.turn;
        });
        if (all.isEmpty()) {
            return null;
        }
        if (running != null) {
            running.state = READY;
        }
        all.get(0).state = RUNNING;
        return all.get(0);
    }

    private boolean step(int core) {
        if (core == 0 && atHand() != null) {
            return false;
        }
        Task t = chosen(core);
        if (t == null || !t.started) {
            return false;
        }
        if (t.at == t.parts.size()) {
            ends(t);
            return true;
        }
        long[] part = t.parts.get(t.at);
        int kind = (int) part[0];
        int v = (int) part[1];
        if (kind == 0) {
            return false;
        }
        if (kind == 8 && lockOwners[v] != null && lockOwners[v] != t) {
            if (!queues.get(v).contains(t)) {
                queues.get(v).add(t);
            }
            return false;
        }
        t.at++;
        done(t, kind, v);
        return true;
    }

    private Task find(int number) {
        return number <= tasks.size() ? tasks.get(number - 1) : null;
    }

    private void done(Task t, int kind, int v) {
        if (kind == 1) {
            if (find(v) == null) {
                tell(8, t);
            } else {
                activating(find(v));
            }
        } else if (kind == 2) {
            Task other = find(v);
            if (other == null) {
                tell(8, t);
                ends(t);
            } else if (other == t) {
                frees(t);
                t.state = SUSPENDED;
                activating(t);
            } else {
                ends(t);
                activating(other);
            }
        } else if (kind == 3) {
            if (!t.extended) {
                tell(2, t);
            } else if (!t.resources.isEmpty() || Arrays.asList(lockOwners).contains(t)) {
                tell(4, t);
            } else if ((t.events & v) == 0) {
                t.state = WAITING;
                t.awaited = v;
            }
        } else if (kind == 4) {
            Task other = find(v / 65536);
            if (other == null) {
                tell(8, t);
            } else if (!other.extended || other.state == SUSPENDED) {
                tell(5, t);
            } else {
                set(other, v % 65536);
            }
        } else if (kind == 5) {
            if (t.extended) {
                t.events = t.events & (65535 - v);
            } else {
                tell(2, t);
            }
        } else {
            doneWithThings(t, kind, v);
        }
    }

    private void doneWithThings(Task t, int kind, int v) {
        if (kind == 6) {
            if (holder(v) != 0) {
                tell(4, t);
            } else {
                t.resources.push(v);
            }
        } else if (kind == 7) {
            if (t.resources.isEmpty() || t.resources.peek() != v) {
                tell(4, t);
            } else {
                t.resources.pop();
            }
        } else if (kind == 8) {
            if (lockOwners[v] == t) {
                tell(6, t);
            } else {
                lockOwners[v] = t;
            }
        } else if (kind == 9) {
            if (lockOwners[v] != t) {
                tell(6, t);
            } else {
                unlock(v);
            }
        } else if (kind == 10) {
            t.schedules = true;
        } else if (kind == 11) {
            ends(t);
        } else if (kind == 12) {
            if (t.core != 0 || offBy != null) {
                tell(7, t);
            } else {
                offBy = t;
                offSince = now;
                budget = v;
            }
        } else if (kind == 13) {
            if (t.core != 0 || offBy == null) {
                tell(7, t);
            } else {
                offBy = null;
            }
        }
    }

    private void unlock(int lock) {
        lockOwners[lock] = null;
        if (!queues.get(lock).isEmpty()) {
            lockOwners[lock] = queues.get(lock).remove(0);
            lockOwners[lock].at++;
        }
    }

    private void set(Task t, int events) {
        t.events |= events;
        if (t.state == WAITING && (t.awaited & t.events) != 0) {
            t.state = READY;
            t.turn = ++turns;
        }
    }

    private void activating(Task t) {
        if (t.state == SUSPENDED) {
            t.state = READY;
            t.turn = ++turns;
            t.events = 0;
            t.started = false;
            t.at = 0;
            t.ran = 0;
        } else if (1 + t.wanted < t.bound) {
            t.wanted++;
        } else {
            tell(1, t);
        }
    }

    private void frees(Task t) {
        boolean held = !t.resources.isEmpty() || offBy == t;
        t.resources.clear();
        for (int lock = 1; lock <= 16; lock++) {
            if (lockOwners[lock] == t) {
                held = true;
                unlock(lock);
            }
        }
        offBy = offBy == t ? null : offBy;
        if (held) {
            tell(3, t);
        }
        t.schedules = false;
    }

    private void ends(Task t) {
        frees(t);
        t.state = SUSPENDED;
        if (t.wanted > 0) {
            t.wanted--;
            activating(t);
        }
    }

    private void tell(int code, Task t) {
        codes.add(new int[] {code, t.number, now});
    }
}
