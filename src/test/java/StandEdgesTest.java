/** The edges that promises 10 to 15 name: a test for each sentence, with the value at the edge and its neighbours. */
public final class StandEdgesTest {
    private static final int NO_SUCH = SleepSteps.NO_SUCH;
    private static final int BAD_VALUE = SleepSteps.BAD_VALUE;
    private static final int NONE = SleepSteps.NONE;
    private static final int LEAST = Integer.MIN_VALUE;
    private static final int MOST = Integer.MAX_VALUE;
    private static final long MOST_RUNS = 2308743493056L;
    private static final String WRITES = "w0w0w0w0w0w0";
    private static final String READS = "r0r0r0r0r0r0";

    public static void main(String[] args) {
        promise10What();
        promise10Fewest();
        promise10Most();
        promise10Reachable();
        promise10EndOrDeadlock();
        promise11Index();
        promise11Order();
        promise11What();
        promise11EachNumber();
        promise12What();
        promise12FewestAndMost();
        promise13What();
        promise13FirstStandWithEmptySet();
        promise13EndOrCut();
        promise13EachStandOnce();
        promise13FewestAndMost();
        promise14Place();
        promise14NoDeadlock();
        promise14ShortestFirstThenLeast();
        promise15Lock();
        promise15AsIfNotThere();
        Checks.finish();
    }

    /** Objects without a deadlock, with one, with three, and with nine. */
    private static SleepSteps withDeadlocks(int n) {
        switch (n) {
            case 0: return Checks.with("l0u0", "l0u0");
            case 1: return Checks.with("l0l1u1u0", "l1l0u0u1");
            case 3: return Checks.with("l0l1", "l1l0");
            default: return Checks.with("l0l1", "l1l0", "l2l3", "l3l2");
        }
    }

    private static void dueStands(SleepSteps x, int reachable, int ends, int deadlocks) {
        String programs = Checks.programs(x);
        Checks.due("10: stands(0) of " + programs, x.stands(0), reachable);
        Checks.due("10: stands(1) of " + programs, x.stands(1), ends);
        Checks.due("10: stands(2) of " + programs, x.stands(2), deadlocks);
    }

    /** "BAD_VALUE if what is out of range." */
    private static void promise10What() {
        for (SleepSteps x : new SleepSteps[] {new SleepSteps(), withDeadlocks(1)}) {
            for (int what : new int[] {-2, -1, 3, 4, NONE, LEAST, MOST}) {
                Checks.due("10: stands(" + what + ")", x.stands(what), BAD_VALUE);
            }
        }
        Checks.due("10: stands(0)", withDeadlocks(1).stands(0), 19);
        Checks.due("10: stands(2)", withDeadlocks(1).stands(2), 1);
    }

    /** "The first stand is the one at which nothing is done": without steps it is the only one, and an end. */
    private static void promise10Fewest() {
        dueStands(new SleepSteps(), 1, 1, 0);
        for (int thread = 0; thread < 4; thread++) {
            for (int n = 0; n <= 6; n++) {
                SleepSteps x = new SleepSteps();
                Checks.program(x, thread, WRITES.substring(0, 2 * n));
                dueStands(x, n + 1, 1, 0);
            }
        }
    }

    /** Six steps in each of four threads, and one less. */
    private static void promise10Most() {
        dueStands(Checks.with(WRITES, WRITES, WRITES, WRITES), 7 * 7 * 7 * 7, 1, 0);
        dueStands(Checks.with(READS, READS, READS, "r0r0r0r0r0"), 7 * 7 * 7 * 6, 1, 0);
        dueStands(Checks.with("w0w0w0w0w0", READS, READS, READS), 6 * 7 * 7 * 7, 1, 0);
    }

    /** "A stand is reachable if it can be come to by goes from the first one." */
    private static void promise10Reachable() {
        dueStands(Checks.with("l0", "l1"), 4, 1, 0);
        dueStands(Checks.with("l0", "l0"), 3, 2, 2);
        dueStands(Checks.with("l0", "l0", "l0"), 4, 3, 3);
        dueStands(Checks.with("l3", "l3", "l3", "l3"), 5, 4, 4);
        // What is behind a lock is reachable only if the lock comes free.
        dueStands(Checks.with("l0", "l0w0w0w0"), 6, 2, 2);
        dueStands(Checks.with("l0u0", "l0w0w0w0"), 3 + 2 * 4, 2, 1);
        dueStands(Checks.with("l0u0", "l0w0w0u0"), 15 - 3, 1, 0);
    }

    /** "A deadlock if some thread has a next step there": not if all are done, whatever is still held. */
    private static void promise10EndOrDeadlock() {
        dueStands(Checks.with("l0l1l2l3"), 5, 1, 0);
        dueStands(Checks.with("l0", "l1", "l2", "l3"), 16, 1, 0);
        dueStands(Checks.with("l0", "l1", "l2", "l2"), 4 * 3, 2, 2);
        dueStands(Checks.with("l0", "l0u0"), 5, 2, 1);
        dueStands(Checks.with("w0", "r0", "w0", "r0"), 16, 1, 0);
    }

    /** "NO_SUCH if there is no such deadlock": the first and the last one, and their neighbours. */
    private static void promise11Index() {
        for (int n : new int[] {0, 1, 3, 9}) {
            SleepSteps x = withDeadlocks(n);
            Checks.due("11: stands(2)", x.stands(2), n);
            for (int what = 0; what <= 6; what++) {
                for (int i : new int[] {LEAST, -1, 0, 1, n - 1, n, n + 1, MOST}) {
                    boolean isThere = i >= 0 && i < n;
                    int got = x.deadlock(i, what);
                    String call = "11: deadlock(" + i + ", " + what + ") of " + n;
                    Checks.due(call, got < 0 ? got : 0, isThere ? 0 : NO_SUCH);
                }
            }
        }
    }

    /** "In the order of the steps done by thread 0, then by thread 1, and so on." */
    private static void promise11Order() {
        String[] done = {"0202", "0211", "0220", "1102", "1111", "1120", "2002", "2011", "2020"};
        SleepSteps x = withDeadlocks(9);
        for (int i = 0; i < 9; i++) {
            for (int thread = 0; thread < 4; thread++) {
                String call = "11: deadlock(" + i + ", " + thread + ")";
                Checks.due(call, x.deadlock(i, thread), done[i].charAt(thread) - '0');
            }
        }
        Checks.due("11: behind the last one", x.deadlock(9, 0), NO_SUCH);
        // A stand of more steps comes first if thread 0 has done fewer.
        SleepSteps y = Checks.with("l0", "l0w0w0w0", "l0w0");
        int[][] due = {{0, 0, 2}, {0, 4, 0}, {1, 0, 0}};
        for (int i = 0; i < 3; i++) {
            for (int thread = 0; thread < 3; thread++) {
                Checks.due("11: deadlock(" + i + ", " + thread + ")", y.deadlock(i, thread), due[i][thread]);
            }
        }
    }

    /** "BAD_VALUE if what is out of range", and only if there is such a deadlock. */
    private static void promise11What() {
        for (int n : new int[] {0, 1, 3}) {
            SleepSteps x = withDeadlocks(n);
            for (int what : new int[] {-2, -1, 7, 8, NONE, LEAST, MOST}) {
                Checks.due("11: deadlock(0, " + what + ")", x.deadlock(0, what), n == 0 ? NO_SUCH : BAD_VALUE);
                Checks.due("11: deadlock(-1, " + what + ")", x.deadlock(-1, what), NO_SUCH);
                Checks.due("11: deadlock(" + n + ", " + what + ")", x.deadlock(n, what), NO_SUCH);
            }
        }
    }

    private static void dueDeadlock(SleepSteps x, int... due) {
        String programs = Checks.programs(x);
        Checks.due("11: there is one", x.stands(2), 1);
        for (int what = 0; what < due.length; what++) {
            Checks.due("11: deadlock(0, " + what + ") of " + programs, x.deadlock(0, what), due[what]);
        }
    }

    /** The sets at their ends: one thread or all, one lock or all; the fewest steps and the most. */
    private static void promise11EachNumber() {
        dueDeadlock(Checks.with("l0u0", "l0"), 0, 1, 0, 0, 1, 1, 1);
        dueDeadlock(Checks.with("l3", "l3u3"), 1, 0, 0, 0, 2, 1, 8);
        dueDeadlock(Checks.with("", "l1", "l1u1"), 0, 1, 0, 0, 4, 1, 2);
        dueDeadlock(Checks.with("", "l2", "", "l2u2"), 0, 1, 0, 0, 8, 1, 4);
        dueDeadlock(Checks.with("l0l1u1u0", "l1l2u2u1", "l2l3u3u2", "l3l0u0u3"), 1, 1, 1, 1, 15, 4, 15);
        // All but one step are done: no run to a deadlock is longer.
        dueDeadlock(Checks.with(WRITES, "w0w0w0w0l3u3", WRITES, "w0w0w0w0w0l3"), 6, 4, 6, 6, 2, 22, 8);
        dueDeadlock(Checks.with("l0w0w0w0u0w0", "l1w0w0w0u1l2", WRITES, "l3w0w0u3l2u2"), 6, 6, 6, 4, 8, 22, 4);
    }

    /** "BAD_VALUE if what is neither 0 nor 1." */
    private static void promise12What() {
        for (SleepSteps x : new SleepSteps[] {new SleepSteps(), withDeadlocks(1)}) {
            for (int what : new int[] {-2, -1, 2, 3, NONE, LEAST, MOST}) {
                Checks.due("12: runs(" + what + ")", x.runs(what), BAD_VALUE);
            }
        }
        Checks.due("12: runs(0)", withDeadlocks(1).runs(0), 6);
        Checks.due("12: runs(1)", withDeadlocks(1).runs(1), 2);
    }

    /** Without steps, the empty run is whole; all runs lead to deadlocks, or none does; the most there are. */
    private static void promise12FewestAndMost() {
        SleepSteps x = new SleepSteps();
        Checks.due("12: runs(0) without steps", x.runs(0), 1);
        Checks.due("12: runs(1) without steps", x.runs(1), 0);
        Checks.due("12: runs(0) of one step", Checks.with("", "", "", "l0").runs(0), 1);
        Checks.due("12: runs(0), all to deadlocks", withDeadlocks(3).runs(0), 4);
        Checks.due("12: runs(1), all to deadlocks", withDeadlocks(3).runs(1), 4);
        Checks.due("12: runs(0), none to a deadlock", withDeadlocks(0).runs(0), 2);
        Checks.due("12: runs(1), none to a deadlock", withDeadlocks(0).runs(1), 0);
        SleepSteps most = Checks.with(WRITES, WRITES, WRITES, WRITES);
        Checks.due("12: runs(0), the most", most.runs(0), MOST_RUNS);
        Checks.due("12: runs(1), the most", most.runs(1), 0);
        // One step less: 23! / (6! 6! 6! 5!).
        SleepSteps less = Checks.with(WRITES, WRITES, WRITES, "r0r0r0r0r0");
        Checks.due("12: runs(0), one step less", less.runs(0), MOST_RUNS / 4);
    }

    /** "BAD_VALUE if what is out of range." */
    private static void promise13What() {
        for (SleepSteps x : new SleepSteps[] {new SleepSteps(), withDeadlocks(1)}) {
            for (int what : new int[] {-2, -1, 3, 4, NONE, LEAST, MOST}) {
                Checks.due("13: sleeping(" + what + ")", x.sleeping(what), BAD_VALUE);
            }
        }
        dueSleeping(withDeadlocks(1), 3, 2, 1);
    }

    private static void dueSleeping(SleepSteps x, long ends, long cuts, long deadlocks) {
        String programs = Checks.programs(x);
        Checks.due("13: sleeping(0) of " + programs, x.sleeping(0), ends);
        Checks.due("13: sleeping(1) of " + programs, x.sleeping(1), cuts);
        Checks.due("13: sleeping(2) of " + programs, x.sleeping(2), deadlocks);
    }

    /** "It begins at the first stand, with the empty set." */
    private static void promise13FirstStandWithEmptySet() {
        dueSleeping(new SleepSteps(), 1, 0, 0);
        dueSleeping(Checks.with("r0"), 1, 0, 0);
        dueSleeping(Checks.with("", "", "", READS), 1, 0, 0);
    }

    /** "It comes to an end if no thread can go; it is cut if some thread can go, but all that can are in the set." */
    private static void promise13EndOrCut() {
        dueSleeping(Checks.with("r0", "r0"), 1, 1, 0);
        dueSleeping(Checks.with("r0", "w0"), 2, 0, 0);
        dueSleeping(Checks.with("l0", "w0"), 1, 1, 0);
        // After 1 went, 0 sleeps; 1 wakes it with its write, or goes on alone and is cut.
        dueSleeping(Checks.with("r0", "r1w0"), 2, 0, 0);
        dueSleeping(Checks.with("r0", "r1r0"), 1, 1, 0);
        dueSleeping(Checks.with("r0", "r1r0r0r0r0r0"), 1, 1, 0);
        // A thread waits for ever: an end, not a cut.
        dueSleeping(Checks.with("l0", "l0"), 2, 0, 2);
    }

    /** "How many deadlocks it comes to (each stand once)." */
    private static void promise13EachStandOnce() {
        dueSleeping(withDeadlocks(3), 3, 0, 3);
        SleepSteps x = Checks.with("w0l0l1u1u0", "w0l1l0u0u1");
        Checks.due("13: sleeping(2)", x.sleeping(2), 1);
        Checks.due("13: sleeping(2) is what stands(2) is", x.stands(2), 1);
        Checks.due("13: it comes to it more than once", x.sleeping(0) > 3 ? 1 : 0, 1);
        Checks.due("13: sleeping(2) of nine", withDeadlocks(9).sleeping(2), 9);
    }

    private static void promise13FewestAndMost() {
        dueSleeping(Checks.with(WRITES, WRITES, WRITES, WRITES), MOST_RUNS, 0, 0);
        dueSleeping(Checks.with(READS, READS, READS, READS), 1, 342, 0);
        dueSleeping(withDeadlocks(0), 2, 0, 0);
    }

    /** "0 and on; -1 for the number of its steps", "BAD_VALUE if place is below -1; NONE if .. no such step". */
    private static void promise14Place() {
        String[] ways = {"1", "01", "0123"};
        SleepSteps[] objects = {Checks.with("l0u0", "l0"), withDeadlocks(1),
            Checks.with("l0l1u1u0", "l1l2u2u1", "l2l3u3u2", "l3l0u0u3")};
        for (int i = 0; i < ways.length; i++) {
            SleepSteps x = objects[i];
            int length = ways[i].length();
            Checks.due("14: wayToDeadlock(-2)", x.wayToDeadlock(-2), BAD_VALUE);
            Checks.due("14: wayToDeadlock(least)", x.wayToDeadlock(LEAST), BAD_VALUE);
            Checks.due("14: wayToDeadlock(-1)", x.wayToDeadlock(-1), length);
            for (int place = 0; place < length; place++) {
                Checks.due("14: wayToDeadlock(" + place + ")", x.wayToDeadlock(place), ways[i].charAt(place) - '0');
            }
            Checks.due("14: wayToDeadlock(" + length + ")", x.wayToDeadlock(length), NONE);
            Checks.due("14: wayToDeadlock(" + length + " + 1)", x.wayToDeadlock(length + 1), NONE);
            Checks.due("14: wayToDeadlock(24)", x.wayToDeadlock(24), NONE);
            Checks.due("14: wayToDeadlock(most)", x.wayToDeadlock(MOST), NONE);
        }
        SleepSteps longest = Checks.with("w0w0w0w0w0l0", WRITES, WRITES, "w0w0w0w0w0l0");
        Checks.due("14: the longest way", longest.wayToDeadlock(-1), 23);
        Checks.due("14: its last step", longest.wayToDeadlock(22), 3);
        Checks.due("14: behind it", longest.wayToDeadlock(23), NONE);
    }

    /** "NONE if there is no deadlock", but BAD_VALUE comes first. */
    private static void promise14NoDeadlock() {
        SleepSteps[] objects = {new SleepSteps(), withDeadlocks(0), Checks.with("l0"), Checks.with("r0", "w0")};
        for (SleepSteps x : objects) {
            for (int place : new int[] {-1, 0, 1, 24, MOST}) {
                Checks.due("14: wayToDeadlock(" + place + ") of none", x.wayToDeadlock(place), NONE);
            }
            for (int place : new int[] {-2, NONE, LEAST}) {
                Checks.due("14: wayToDeadlock(" + place + ") of none", x.wayToDeadlock(place), BAD_VALUE);
            }
        }
    }

    /** "The least of the shortest runs to a deadlock." */
    private static void promise14ShortestFirstThenLeast() {
        Checks.dueText("14: one shorter run", Checks.way(Checks.with("l0r0", "r1l0")), "11");
        Checks.dueText("14: equally long ones", Checks.way(Checks.with("l0r0", "l0r1")), "00");
        Checks.dueText("14: to the other one", Checks.way(Checks.with("l0r0r0", "l0r1")), "11");
        Checks.dueText("14: of one deadlock", Checks.way(Checks.with("", "r0l0l1u1u0", "l1r0l0u0u1")), "1122");
        SleepSteps last = Checks.with("l1r0l0u0u1", "", "", "l0l1u1u0");
        Checks.dueText("14: first one, then the other", Checks.way(last), "003");
        Checks.dueText("14: the highest threads", Checks.way(Checks.with("", "", "l3", "l3l2")), "2");
    }

    /** "NO_SUCH if there is no such lock." */
    private static void promise15Lock() {
        for (SleepSteps x : new SleepSteps[] {new SleepSteps(), withDeadlocks(1), withDeadlocks(9)}) {
            for (int lock : new int[] {-2, -1, 4, 5, NONE, LEAST, MOST}) {
                Checks.due("15: without(" + lock + ")", x.without(lock), NO_SUCH);
            }
            for (int lock = 0; lock < 4; lock++) {
                Checks.due("15: without(" + lock + ") is a number", x.without(lock) >= 0 ? 1 : 0, 1);
            }
        }
        for (int cause = 0; cause < 4; cause++) {
            SleepSteps x = Checks.with("l" + cause, "r0", "l" + cause);
            for (int lock = 0; lock < 4; lock++) {
                Checks.due("15: without(" + lock + ") for " + cause, x.without(lock), lock == cause ? 0 : 2);
            }
        }
    }

    /** "As if these steps were not there": no lock at all, a lock of nobody, one that keeps others from a deadlock. */
    private static void promise15AsIfNotThere() {
        SleepSteps none = new SleepSteps();
        for (int lock = 0; lock < 4; lock++) {
            Checks.due("15: without(" + lock + ") without steps", none.without(lock), 0);
        }
        SleepSteps gate = Checks.with("l3l0l1u1u0u3", "l3l1l0u0u1u3");
        Checks.due("15: stands(2)", gate.stands(2), 0);
        int[] due = {0, 0, 0, 1};
        for (int lock = 0; lock < 4; lock++) {
            Checks.due("15: without(" + lock + ")", gate.without(lock), due[lock]);
        }
        // Steps of variable 0 stay when lock 0 goes.
        SleepSteps mixed = Checks.with("l0w0l1u0", "l0r0l1u0");
        Checks.due("15: stands(2)", mixed.stands(2), 2);
        Checks.due("15: without(0)", mixed.without(0), 2);
        Checks.due("15: without(1)", mixed.without(1), 0);
        SleepSteps more = Checks.with("l0l1w0w0", "l0l1w0w0");
        Checks.due("15: stands(2)", more.stands(2), 2);
        Checks.due("15: without(0) leaves those of 1", more.without(0), 2);
        Checks.due("15: nine, without(2)", withDeadlocks(9).without(2), 6);
    }
}
