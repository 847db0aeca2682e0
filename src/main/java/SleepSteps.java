import java.util.Arrays;

/** Threads whose steps commute or do not; ../shared/DOC.md says what each public method promises. */
public final class SleepSteps {
    public static final int NO_SUCH = -1, BAD_VALUE = -2, BAD_TEXT = -3, TOO_MANY = -4, NOT_POSSIBLE = -5, NONE = -6;
    public static final int READ = 0, WRITE = 1, LOCK = 2, UNLOCK = 3;

    private static final int THREADS = 4;
    private static final int NAMES = 4;
    private static final int LONGEST_PROGRAM = 6;
    private static final int LONGEST_RUN = THREADS * LONGEST_PROGRAM;
    private static final int LONGEST_PAD = 40;
    private static final int LONGEST_PUT = 8;
    private static final int LONGEST_HISTORY = 6;
    private static final int SLOTS = 2;
    private static final int NO_STEP = -1;
    private static final int NO_STAND = -1;
    private static final int FIRST_STAND = 0;
    /** A stand is one number, three bits a thread, thread 0 highest: so numbers are in the order of deadlock(). */
    private static final int STANDS = 4096;
    /** What three bits can count: 0 to 7 steps. */
    private static final int STEP_COUNTS = 8;
    private static final int SLEEP_SETS = 16;

    private final Pad pad = new Pad();
    private final State now = new State();
    private final History history = new History();
    private final State[] saved = new State[SLOTS];
    private final boolean[] isSaved = new boolean[SLOTS];
    private final Programs draft = new Programs();
    private final StandSpace space = new StandSpace();
    private final RunOrder order = new RunOrder();
    private final Run padRun = new Run();
    private final Run leastRun = new Run();
    private final Run otherLeastRun = new Run();

    public SleepSteps() {
        for (int slot = 0; slot < SLOTS; slot++) {
            saved[slot] = new State();
        }
    }

    // ---- texts

    public int put(long characters) {
        int added = Pad.charactersIn(characters);
        if (added == 0) {
            return BAD_VALUE;
        }
        if (pad.length() + added > LONGEST_PAD) {
            return TOO_MANY;
        }
        pad.append(characters, added);
        return pad.length();
    }

    public int wipe() {
        int length = pad.length();
        pad.clear();
        return length;
    }

    public int fault(int how) {
        if (how == 0) {
            return pad.faultAsProgram();
        }
        if (how == 1) {
            return pad.faultAsRun();
        }
        return BAD_VALUE;
    }

    // ---- programs, the kept run

    public int program(int thread) {
        if (!isThread(thread)) {
            return NO_SUCH;
        }
        if (pad.faultAsProgram() != NONE) {
            return BAD_TEXT;
        }
        draft.copyFrom(now.programs);
        draft.readProgram(thread, pad);
        if (!draft.isWell(thread)) {
            return NOT_POSSIBLE;
        }
        changeProgramsToDraft();
        pad.clear();
        return draft.lengthOf(thread);
    }

    public int exchange(int thread, int step) {
        if (!isThread(thread) || step < 0 || step >= now.programs.lengthOf(thread) - 1) {
            return NO_SUCH;
        }
        boolean different = now.programs.stepOf(thread, step) != now.programs.stepOf(thread, step + 1);
        draft.copyFrom(now.programs);
        draft.swapWithNext(thread, step);
        if (!draft.isWell(thread)) {
            return NOT_POSSIBLE;
        }
        changeProgramsToDraft();
        return different ? 1 : 0;
    }

    public int keep() {
        if (pad.faultAsRun() != NONE) {
            return BAD_TEXT;
        }
        padRun.readRun(pad);
        space.lookAt(now.programs);
        if (!space.canRun(padRun)) {
            return NOT_POSSIBLE;
        }
        history.record(now);
        now.run.copyFrom(padRun);
        pad.clear();
        return now.run.length();
    }

    private void changeProgramsToDraft() {
        history.record(now);
        now.programs.copyFrom(draft);
        now.run.clear();
    }

    // ---- what there is

    public int ofStep(int thread, int step, int what) {
        int code = now.programs.stepOf(thread, step);
        if (code == NO_STEP) {
            return NO_SUCH;
        }
        switch (what) {
            case 0: return kindOf(code);
            case 1: return nameOf(code);
            case 2: return now.programs.conflictsOf(thread, step);
            default: return BAD_VALUE;
        }
    }

    public int count(int what) {
        if (isThread(what)) {
            return now.programs.lengthOf(what);
        }
        switch (what) {
            case 4: return now.programs.allSteps();
            case 5: return pad.length();
            case 6: return history.size();
            case 7: return now.run.length();
            case 8: return now.programs.conflictingPairs();
            default: return BAD_VALUE;
        }
    }

    // ---- stands

    public int stands(int what) {
        space.lookAt(now.programs);
        switch (what) {
            case 0: return space.reachableStands();
            case 1: return space.ends();
            case 2: return space.deadlocks();
            default: return BAD_VALUE;
        }
    }

    public int deadlock(int i, int what) {
        space.lookAt(now.programs);
        int stand = space.deadlockAt(i);
        if (stand == NO_STAND) {
            return NO_SUCH;
        }
        if (isThread(what)) {
            return doneBy(stand, what);
        }
        switch (what) {
            case 4: return space.unfinishedThreads(stand);
            case 5: return stepsDone(stand);
            case 6: return space.heldLocks(stand);
            default: return BAD_VALUE;
        }
    }

    public long runs(int what) {
        space.lookAt(now.programs);
        switch (what) {
            case 0: return space.wholeRuns();
            case 1: return space.wholeRunsToDeadlocks();
            default: return BAD_VALUE;
        }
    }

    public long sleeping(int what) {
        space.lookAt(now.programs);
        space.exploreWithSleepSets();
        switch (what) {
            case 0: return space.sleepEnds();
            case 1: return space.sleepCuts();
            case 2: return space.sleepDeadlocks();
            default: return BAD_VALUE;
        }
    }

    public int wayToDeadlock(int place) {
        if (place < -1) {
            return BAD_VALUE;
        }
        space.lookAt(now.programs);
        Run way = space.leastShortestWay();
        if (place >= 0) {
            return way.threadAt(place);
        }
        // The first stand is never a deadlock, so an empty way means that there is none.
        return way.length() == 0 ? NONE : way.length();
    }

    public int without(int lock) {
        if (!isName(lock)) {
            return NO_SUCH;
        }
        draft.copyWithoutLock(now.programs, lock);
        space.lookAt(draft);
        return space.deadlocks();
    }

    // ---- the run that is kept

    public int least(int place) {
        if (place < 0) {
            return BAD_VALUE;
        }
        order.lookAt(now.programs, now.run);
        order.writeLeast(leastRun);
        return leastRun.threadAt(place);
    }

    public int alike() {
        if (pad.faultAsRun() != NONE) {
            return BAD_TEXT;
        }
        padRun.readRun(pad);
        space.lookAt(now.programs);
        if (!space.canRun(padRun)) {
            return 0;
        }
        order.lookAt(now.programs, padRun);
        order.writeLeast(otherLeastRun);
        order.lookAt(now.programs, now.run);
        order.writeLeast(leastRun);
        return leastRun.sameAs(otherLeastRun) ? 1 : 0;
    }

    public int chain() {
        order.lookAt(now.programs, now.run);
        return order.longestChain();
    }

    public int lastWrite(int variable, int what) {
        if (!isName(variable)) {
            return NO_SUCH;
        }
        if (what != 0 && what != 1) {
            return BAD_VALUE;
        }
        int write = codeOf(WRITE, variable);
        int writer = NONE;
        int step = NONE;
        int stand = FIRST_STAND;
        for (int i = 0; i < now.run.length(); i++) {
            int thread = now.run.threadAt(i);
            if (now.programs.stepOf(thread, doneBy(stand, thread)) == write) {
                writer = thread;
                step = doneBy(stand, thread);
            }
            stand = standAfter(stand, thread);
        }
        return what == 0 ? writer : step;
    }

    public long alikeRuns() {
        order.lookAt(now.programs, now.run);
        return order.linearOrders();
    }

    // ---- undo, saving

    public int undo() {
        if (history.size() == 0) {
            return NOT_POSSIBLE;
        }
        history.takeBackInto(now);
        return history.size();
    }

    public int save(int slot) {
        if (!isSlot(slot)) {
            return BAD_VALUE;
        }
        saved[slot].copyFrom(now);
        isSaved[slot] = true;
        return now.programs.allSteps();
    }

    public int restore(int slot) {
        if (!isSlot(slot)) {
            return BAD_VALUE;
        }
        if (!isSaved[slot]) {
            return NOT_POSSIBLE;
        }
        history.record(now);
        now.copyFrom(saved[slot]);
        return now.programs.allSteps();
    }

    // ---- threads, slots, and the names of variables and locks

    private static boolean isThread(int thread) {
        return thread >= 0 && thread < THREADS;
    }

    private static boolean isName(int name) {
        return name >= 0 && name < NAMES;
    }

    private static boolean isSlot(int slot) {
        return slot >= 0 && slot < SLOTS;
    }

    private static int setOf(int member) {
        return 1 << member;
    }

    private static boolean isIn(int member, int set) {
        return ((set >> member) & 1) != 0;
    }

    // ---- steps: one number each, the kind in the higher bits, the variable or lock in the two lowest

    private static int codeOf(int kind, int name) {
        return (kind << 2) | name;
    }

    private static int kindOf(int code) {
        return code >> 2;
    }

    private static int nameOf(int code) {
        return code & 3;
    }

    /** Whether two steps of different threads commute. */
    private static boolean commute(int one, int other) {
        if (nameOf(one) != nameOf(other)) {
            return true;
        }
        int kind = kindOf(one);
        int otherKind = kindOf(other);
        if (kind >= LOCK || otherKind >= LOCK) {
            return kind < LOCK || otherKind < LOCK;
        }
        return kind == READ && otherKind == READ;
    }

    // ---- stands

    private static int doneBy(int stand, int thread) {
        return (stand >> (9 - 3 * thread)) & 7;
    }

    /** Six steps at most fit in three bits; the mask is there so that every answer can be seen to be an index. */
    private static int standAfter(int stand, int thread) {
        return (stand + (1 << (9 - 3 * thread))) & (STANDS - 1);
    }

    private static int stepsDone(int stand) {
        int sum = 0;
        for (int thread = 0; thread < THREADS; thread++) {
            sum += doneBy(stand, thread);
        }
        return sum;
    }

    /** The text from which programs and runs are read. */
    private static final class Pad {
        private final int[] signs = new int[LONGEST_PAD];
        private int length;

        /** How many characters a number for put() tells; 0 if it is not one. */
        static int charactersIn(long characters) {
            int n = 0;
            while (n < LONGEST_PUT && signIn(characters, n) != 0) {
                if (signIn(characters, n) < 33 || signIn(characters, n) > 126) {
                    return 0;
                }
                n++;
            }
            if (n < LONGEST_PUT && characters >>> (8 * n) != 0) {
                return 0;
            }
            return n;
        }

        private static int signIn(long characters, int fromLast) {
            return (int) ((characters >>> (8 * fromLast)) & 255);
        }

        int length() {
            return length;
        }

        void clear() {
            length = 0;
        }

        void append(long characters, int added) {
            for (int fromLast = added - 1; fromLast >= 0 && length < LONGEST_PAD; fromLast--) {
                signs[length] = signIn(characters, fromLast);
                length++;
            }
        }

        int faultAsProgram() {
            for (int i = 0; i < length; i++) {
                boolean fits = i % 2 == 0 ? kindAt(i) != NO_STEP : isDigitAt(i);
                if (!fits || i >= 2 * LONGEST_PROGRAM) {
                    return i;
                }
            }
            return length % 2 == 0 ? NONE : length;
        }

        int faultAsRun() {
            for (int i = 0; i < length; i++) {
                if (!isDigitAt(i) || i >= LONGEST_RUN) {
                    return i;
                }
            }
            return NONE;
        }

        int kindAt(int i) {
            switch (signAt(i)) {
                case 'r': return READ;
                case 'w': return WRITE;
                case 'l': return LOCK;
                case 'u': return UNLOCK;
                default: return NO_STEP;
            }
        }

        int digitAt(int i) {
            return signAt(i) - '0';
        }

        private boolean isDigitAt(int i) {
            return signAt(i) >= '0' && signAt(i) <= '3';
        }

        private int signAt(int i) {
            return i >= 0 && i < length ? signs[i] : 0;
        }
    }

    /** The programs of all threads. */
    private static final class Programs {
        private final int[] steps = new int[LONGEST_RUN];
        private final int[] lengths = new int[THREADS];

        int lengthOf(int thread) {
            return isThread(thread) ? lengths[thread] : 0;
        }

        /** The step's code, NO_STEP where the thread has none (or there is no such thread). */
        int stepOf(int thread, int step) {
            if (thread < 0 || thread >= THREADS || step < 0 || step >= lengths[thread]) {
                return NO_STEP;
            }
            return steps[thread * LONGEST_PROGRAM + step];
        }

        int allSteps() {
            int sum = 0;
            for (int thread = 0; thread < THREADS; thread++) {
                sum += lengths[thread];
            }
            return sum;
        }

        void copyFrom(Programs other) {
            System.arraycopy(other.steps, 0, steps, 0, LONGEST_RUN);
            System.arraycopy(other.lengths, 0, lengths, 0, THREADS);
        }

        void copyWithoutLock(Programs other, int lock) {
            for (int thread = 0; thread < THREADS; thread++) {
                lengths[thread] = 0;
                for (int step = 0; step < other.lengthOf(thread); step++) {
                    int code = other.stepOf(thread, step);
                    if (code != codeOf(LOCK, lock) && code != codeOf(UNLOCK, lock)) {
                        append(thread, code);
                    }
                }
            }
        }

        /** Reads a pad that has no fault as a program. */
        void readProgram(int thread, Pad pad) {
            lengths[thread] = 0;
            for (int i = 0; i + 1 < pad.length(); i += 2) {
                append(thread, codeOf(pad.kindAt(i), pad.digitAt(i + 1)));
            }
        }

        private void append(int thread, int code) {
            if (lengths[thread] < LONGEST_PROGRAM) {
                steps[thread * LONGEST_PROGRAM + lengths[thread]] = code;
                lengths[thread]++;
            }
        }

        void swapWithNext(int thread, int step) {
            if (stepOf(thread, step) == NO_STEP || stepOf(thread, step + 1) == NO_STEP) {
                return;
            }
            int at = thread * LONGEST_PROGRAM + step;
            int first = steps[at];
            steps[at] = steps[at + 1];
            steps[at + 1] = first;
        }

        boolean sameAs(Programs other) {
            for (int thread = 0; thread < THREADS; thread++) {
                if (lengths[thread] != other.lengths[thread]) {
                    return false;
                }
                for (int step = 0; step < lengths[thread]; step++) {
                    if (stepOf(thread, step) != other.stepOf(thread, step)) {
                        return false;
                    }
                }
            }
            return true;
        }

        boolean isWell(int thread) {
            for (int step = 0; step < lengths[thread]; step++) {
                int code = stepOf(thread, step);
                boolean holds = isIn(nameOf(code), heldAfter(thread, step));
                if (kindOf(code) == LOCK && holds || kindOf(code) == UNLOCK && !holds) {
                    return false;
                }
            }
            return true;
        }

        /** The set of locks that a thread holds when it has done so many steps. */
        int heldAfter(int thread, int done) {
            int held = 0;
            for (int step = 0; step < done; step++) {
                int code = stepOf(thread, step);
                if (kindOf(code) == LOCK) {
                    held |= setOf(nameOf(code));
                }
                if (kindOf(code) == UNLOCK) {
                    held &= ~setOf(nameOf(code));
                }
            }
            return held;
        }

        /** How many steps of other threads do not commute with a step. */
        int conflictsOf(int thread, int step) {
            int sum = 0;
            int code = stepOf(thread, step);
            for (int other = 0; other < THREADS; other++) {
                for (int i = 0; i < lengths[other]; i++) {
                    if (other != thread && !commute(code, stepOf(other, i))) {
                        sum++;
                    }
                }
            }
            return sum;
        }

        int conflictingPairs() {
            int sum = 0;
            for (int thread = 0; thread < THREADS; thread++) {
                for (int step = 0; step < lengths[thread]; step++) {
                    sum += conflictsOf(thread, step);
                }
            }
            return sum / 2;
        }
    }

    /** A row of threads that go. */
    private static final class Run {
        private final int[] threads = new int[LONGEST_RUN];
        private int length;

        int length() {
            return length;
        }

        /** The thread that goes at a place, NONE where the run has no such step. */
        int threadAt(int place) {
            return place >= 0 && place < length ? threads[place] : NONE;
        }

        void clear() {
            length = 0;
        }

        void append(int thread) {
            if (length < LONGEST_RUN) {
                threads[length] = thread;
                length++;
            }
        }

        void copyFrom(Run other) {
            System.arraycopy(other.threads, 0, threads, 0, LONGEST_RUN);
            length = other.length;
        }

        /** Reads a pad that has no fault as a run. */
        void readRun(Pad pad) {
            clear();
            for (int i = 0; i < pad.length(); i++) {
                append(pad.digitAt(i));
            }
        }

        boolean sameAs(Run other) {
            if (length != other.length) {
                return false;
            }
            for (int i = 0; i < length; i++) {
                if (threads[i] != other.threads[i]) {
                    return false;
                }
            }
            return true;
        }
    }

    /** What undo() and restore() bring back. */
    private static final class State {
        private final Programs programs = new Programs();
        private final Run run = new Run();

        void copyFrom(State other) {
            programs.copyFrom(other.programs);
            run.copyFrom(other.run);
        }
    }

    /** The states before the latest changes, in a ring. */
    private static final class History {
        private final State[] states = new State[LONGEST_HISTORY];
        private int oldest;
        private int size;

        History() {
            for (int i = 0; i < LONGEST_HISTORY; i++) {
                states[i] = new State();
            }
        }

        int size() {
            return size;
        }

        void record(State before) {
            states[(oldest + size) % LONGEST_HISTORY].copyFrom(before);
            if (size < LONGEST_HISTORY) {
                size++;
            } else {
                oldest = (oldest + 1) % LONGEST_HISTORY;
            }
        }

        void takeBackInto(State now) {
            if (size > 0) {
                size--;
                now.copyFrom(states[(oldest + size) % LONGEST_HISTORY]);
            }
        }
    }

    /** All stands of some programs. Every go makes a stand's number greater, so one pass upwards sees all. */
    private static final class StandSpace {
        private final Programs programs = new Programs();
        private boolean isExplored;
        /** The set of locks that a thread holds, for each thread and each number of steps done. */
        private final int[] heldByThread = new int[THREADS * STEP_COUNTS];
        private final int[] goers = new int[STANDS];
        private final long[] runsTo = new long[STANDS];
        private boolean isSleepExplored;
        private final long[] timesAsleep = new long[STANDS * SLEEP_SETS];
        private long sleepEnds;
        private long sleepCuts;
        private int sleepDeadlocks;
        private final boolean[] leadsToShortest = new boolean[STANDS];
        private final Run way = new Run();

        /** Explores the stands of these programs, unless they are the ones that were explored last. */
        void lookAt(Programs wanted) {
            if (isExplored && programs.sameAs(wanted)) {
                return;
            }
            programs.copyFrom(wanted);
            isExplored = true;
            isSleepExplored = false;
            noteHeldLocks();
            Arrays.fill(goers, 0);
            Arrays.fill(runsTo, 0L);
            runsTo[FIRST_STAND] = 1;
            for (int stand = 0; stand < STANDS; stand++) {
                if (isReachable(stand)) {
                    goFrom(stand);
                }
            }
        }

        private void noteHeldLocks() {
            for (int thread = 0; thread < THREADS; thread++) {
                for (int done = 0; done < STEP_COUNTS; done++) {
                    heldByThread[thread * STEP_COUNTS + done] = programs.heldAfter(thread, done);
                }
            }
        }

        private void goFrom(int stand) {
            goers[stand] = threadsThatCanGo(stand);
            for (int thread = 0; thread < THREADS; thread++) {
                if (isIn(thread, goers[stand])) {
                    runsTo[standAfter(stand, thread)] += runsTo[stand];
                }
            }
        }

        private int threadsThatCanGo(int stand) {
            // Programs that are well lock none that they hold: a lock that is held is another thread's.
            int held = heldLocks(stand);
            int able = 0;
            for (int thread = 0; thread < THREADS; thread++) {
                int step = nextStep(stand, thread);
                boolean isBlocked = kindOf(step) == LOCK && isIn(nameOf(step), held);
                if (step != NO_STEP && !isBlocked) {
                    able |= setOf(thread);
                }
            }
            return able;
        }

        private int nextStep(int stand, int thread) {
            return programs.stepOf(thread, doneBy(stand, thread));
        }

        int heldLocks(int stand) {
            int held = 0;
            for (int thread = 0; thread < THREADS; thread++) {
                held |= heldByThread[thread * STEP_COUNTS + doneBy(stand, thread)];
            }
            return held;
        }

        int unfinishedThreads(int stand) {
            int unfinished = 0;
            for (int thread = 0; thread < THREADS; thread++) {
                if (nextStep(stand, thread) != NO_STEP) {
                    unfinished |= setOf(thread);
                }
            }
            return unfinished;
        }

        private boolean isReachable(int stand) {
            return runsTo[stand] != 0;
        }

        private boolean isEnd(int stand) {
            return isReachable(stand) && goers[stand] == 0;
        }

        private boolean isDeadlock(int stand) {
            return isEnd(stand) && unfinishedThreads(stand) != 0;
        }

        boolean canRun(Run run) {
            int stand = FIRST_STAND;
            for (int i = 0; i < run.length(); i++) {
                if (!isIn(run.threadAt(i), goers[stand])) {
                    return false;
                }
                stand = standAfter(stand, run.threadAt(i));
            }
            return true;
        }

        int reachableStands() {
            int sum = 0;
            for (int stand = 0; stand < STANDS; stand++) {
                if (isReachable(stand)) {
                    sum++;
                }
            }
            return sum;
        }

        int ends() {
            int sum = 0;
            for (int stand = 0; stand < STANDS; stand++) {
                if (isEnd(stand)) {
                    sum++;
                }
            }
            return sum;
        }

        int deadlocks() {
            int sum = 0;
            for (int stand = 0; stand < STANDS; stand++) {
                if (isDeadlock(stand)) {
                    sum++;
                }
            }
            return sum;
        }

        /** The deadlock with an index, NO_STAND if there is none. */
        int deadlockAt(int i) {
            int seen = 0;
            for (int stand = 0; stand < STANDS; stand++) {
                if (isDeadlock(stand)) {
                    if (seen == i) {
                        return stand;
                    }
                    seen++;
                }
            }
            return NO_STAND;
        }

        long wholeRuns() {
            long sum = 0;
            for (int stand = 0; stand < STANDS; stand++) {
                if (isEnd(stand)) {
                    sum += runsTo[stand];
                }
            }
            return sum;
        }

        long wholeRunsToDeadlocks() {
            long sum = 0;
            for (int stand = 0; stand < STANDS; stand++) {
                if (isDeadlock(stand)) {
                    sum += runsTo[stand];
                }
            }
            return sum;
        }

        /** Exploring goes on alike from the same stand with the same set, so it is enough to count how often. */
        void exploreWithSleepSets() {
            if (isSleepExplored) {
                return;
            }
            isSleepExplored = true;
            sleepEnds = 0;
            sleepCuts = 0;
            sleepDeadlocks = 0;
            Arrays.fill(timesAsleep, 0L);
            timesAsleep[FIRST_STAND] = 1;
            for (int stand = 0; stand < STANDS; stand++) {
                if (isReachable(stand)) {
                    exploreFrom(stand);
                }
            }
        }

        private void exploreFrom(int stand) {
            boolean isCome = false;
            for (int asleep = 0; asleep < SLEEP_SETS; asleep++) {
                long times = timesAsleep[stand * SLEEP_SETS + asleep];
                if (times != 0) {
                    isCome = true;
                    exploreWith(stand, asleep, times);
                }
            }
            if (isCome && isDeadlock(stand)) {
                sleepDeadlocks++;
            }
        }

        private void exploreWith(int stand, int asleep, long times) {
            int able = goers[stand];
            if (able == 0) {
                sleepEnds += times;
            } else if ((able & ~asleep) == 0) {
                sleepCuts += times;
            }
            int resting = asleep;
            for (int thread = 0; thread < THREADS; thread++) {
                if (isIn(thread, able & ~asleep)) {
                    int next = stillAsleep(stand, thread, resting);
                    timesAsleep[standAfter(stand, thread) * SLEEP_SETS + next] += times;
                    resting |= setOf(thread);
                }
            }
        }

        /** Of the threads that rest, those whose next step commutes with the one of the thread that goes. */
        private int stillAsleep(int stand, int goer, int resting) {
            int step = nextStep(stand, goer);
            int still = 0;
            for (int thread = 0; thread < THREADS; thread++) {
                if (isIn(thread, resting) && commute(nextStep(stand, thread), step)) {
                    still |= setOf(thread);
                }
            }
            return still;
        }

        long sleepEnds() {
            return sleepEnds;
        }

        long sleepCuts() {
            return sleepCuts;
        }

        int sleepDeadlocks() {
            return sleepDeadlocks;
        }

        /** The least of the shortest runs to a deadlock; empty if there is no deadlock. */
        Run leastShortestWay() {
            way.clear();
            int shortest = shortestWay();
            markWaysOf(shortest);
            int stand = FIRST_STAND;
            for (int i = 0; i < shortest; i++) {
                int thread = leastLeading(stand);
                if (thread != NONE) {
                    way.append(thread);
                    stand = standAfter(stand, thread);
                }
            }
            return way;
        }

        private int shortestWay() {
            int shortest = NONE;
            for (int stand = 0; stand < STANDS; stand++) {
                if (isDeadlock(stand) && (shortest == NONE || stepsDone(stand) < shortest)) {
                    shortest = stepsDone(stand);
                }
            }
            return shortest;
        }

        private void markWaysOf(int shortest) {
            for (int stand = STANDS - 1; stand >= 0; stand--) {
                leadsToShortest[stand] = leastLeading(stand) != NONE
                        || isDeadlock(stand) && stepsDone(stand) == shortest;
            }
        }

        private int leastLeading(int stand) {
            for (int thread = 0; thread < THREADS; thread++) {
                if (isIn(thread, goers[stand]) && leadsToShortest[standAfter(stand, thread)]) {
                    return thread;
                }
            }
            return NONE;
        }
    }

    /** What comes before what in a run, and so in each run alike to it. */
    private static final class RunOrder {
        private final int[] counts = new int[THREADS];
        /** For each step, and each thread: how many steps of that thread have to be done before it. */
        private final int[] needs = new int[LONGEST_RUN * THREADS];
        private final int[] chains = new int[LONGEST_RUN];
        private int longestChain;
        private int lastStand;
        private final long[] ways = new long[STANDS];

        /** Takes a run in which each thread can go where it is its turn. */
        void lookAt(Programs programs, Run run) {
            Arrays.fill(counts, 0);
            longestChain = 0;
            lastStand = FIRST_STAND;
            for (int i = 0; i < run.length(); i++) {
                addStep(programs, run.threadAt(i));
            }
        }

        private void addStep(Programs programs, int thread) {
            if (!isThread(thread) || programs.stepOf(thread, counts[thread]) == NO_STEP) {
                return;
            }
            int step = counts[thread];
            int at = thread * LONGEST_PROGRAM + step;
            int code = programs.stepOf(thread, step);
            int chain = 0;
            for (int other = 0; other < THREADS; other++) {
                int need = other == thread ? step : neededSteps(programs, code, other);
                needs[at * THREADS + other] = need;
                if (need > 0) {
                    // Later steps of a thread end longer chains, so the last one that is needed is enough.
                    chain = Math.max(chain, chains[other * LONGEST_PROGRAM + need - 1]);
                }
            }
            chains[at] = chain + 1;
            longestChain = Math.max(longestChain, chain + 1);
            counts[thread]++;
            lastStand = standAfter(lastStand, thread);
        }

        /** How many steps of another thread, up to the last one that does not commute with a step. */
        private int neededSteps(Programs programs, int code, int other) {
            for (int done = counts[other]; done > 0; done--) {
                if (!commute(code, programs.stepOf(other, done - 1))) {
                    return done;
                }
            }
            return 0;
        }

        private boolean mayGo(int stand, int thread) {
            int step = doneBy(stand, thread);
            if (step >= counts[thread]) {
                return false;
            }
            int at = thread * LONGEST_PROGRAM + step;
            for (int other = 0; other < THREADS; other++) {
                if (doneBy(stand, other) < needs[at * THREADS + other]) {
                    return false;
                }
            }
            return true;
        }

        int longestChain() {
            return longestChain;
        }

        void writeLeast(Run target) {
            target.clear();
            int stand = FIRST_STAND;
            for (int i = 0; i < LONGEST_RUN && stand != lastStand; i++) {
                int thread = leastThatMayGo(stand);
                if (thread != NONE) {
                    target.append(thread);
                    stand = standAfter(stand, thread);
                }
            }
        }

        private int leastThatMayGo(int stand) {
            for (int thread = 0; thread < THREADS; thread++) {
                if (mayGo(stand, thread)) {
                    return thread;
                }
            }
            return NONE;
        }

        /** In how many orders the steps can go. */
        long linearOrders() {
            Arrays.fill(ways, 0L);
            ways[FIRST_STAND] = 1;
            for (int stand = 0; stand < STANDS; stand++) {
                for (int thread = 0; thread < THREADS && ways[stand] != 0; thread++) {
                    if (mayGo(stand, thread)) {
                        ways[standAfter(stand, thread)] += ways[stand];
                    }
                }
            }
            return ways[lastStand];
        }
    }
}
