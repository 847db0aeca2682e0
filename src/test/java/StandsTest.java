/** Promises 10 to 15: stands, deadlock, runs, sleeping, wayToDeadlock, without. */
public final class StandsTest {
    private static final long MOST_RUNS = 2308743493056L;

    public static void main(String[] args) {
        promise10();
        promise11();
        promise12();
        promise13();
        promise14();
        promise15();
        wrongValues();
        mostSteps();
        newPrograms();
        newStepsOfTheSameNumber();
        firstAskedWithoutSteps();
        Checks.finish();
    }

    /** Two threads that lock two locks in opposite orders. */
    private static SleepSteps crossed() {
        return Checks.with("l0l1u1u0", "l1l0u0u1");
    }

    private static void dueStands(SleepSteps x, int reachable, int ends, int deadlocks) {
        String programs = Checks.programs(x);
        Checks.due("10: stands(0) of " + programs, x.stands(0), reachable);
        Checks.due("10: stands(1) of " + programs, x.stands(1), ends);
        Checks.due("10: stands(2) of " + programs, x.stands(2), deadlocks);
    }

    private static void promise10() {
        dueStands(Checks.with("r0r0", "r0r0"), 9, 1, 0);
        dueStands(Checks.with("w0", "w0", "w0", "w0"), 16, 1, 0);
        dueStands(Checks.with("l0"), 2, 1, 0);
        dueStands(Checks.with("l0", "l0"), 3, 2, 2);
        dueStands(Checks.with("l0u0", "l0u0"), 8, 1, 0);
        dueStands(Checks.with("l0l1", "l1l0"), 6, 3, 3);
        dueStands(crossed(), 19, 2, 1);
        dueStands(Checks.with("l0l1", "l1l0", "", "r3"), 12, 3, 3);
        dueStands(Checks.with("r0l0", "w1l0u0"), 11, 2, 1);
        // Thread 3 never unlocks: it is a deadlock if it comes first.
        dueStands(Checks.with("l0u0", "", "", "l0"), 5, 2, 1);
    }

    private static void dueDeadlock(SleepSteps x, int i, int... due) {
        for (int what = 0; what < due.length; what++) {
            Checks.due("11: deadlock(" + i + ", " + what + ")", x.deadlock(i, what), due[what]);
        }
    }

    private static void promise11() {
        SleepSteps x = Checks.with("l0l1", "l1l0");
        dueDeadlock(x, 0, 0, 2, 0, 0, 1, 2, 3);
        dueDeadlock(x, 1, 1, 1, 0, 0, 3, 2, 3);
        dueDeadlock(x, 2, 2, 0, 0, 0, 2, 2, 3);
        SleepSteps y = Checks.with("", "r0r0", "l3w0l2u2u3", "l2l3u2");
        Checks.due("11: stands(2)", y.stands(2), 2);
        dueDeadlock(y, 0, 0, 2, 0, 3, 4, 5, 8);
        dueDeadlock(y, 1, 0, 2, 2, 1, 12, 5, 12);
        Checks.due("11: deadlock(2, 0)", y.deadlock(2, 0), SleepSteps.NO_SUCH);
        for (int i : new int[] {-1, 3, 4, Integer.MIN_VALUE, Integer.MAX_VALUE}) {
            Checks.due("11: deadlock(" + i + ", 0)", x.deadlock(i, 0), SleepSteps.NO_SUCH);
            Checks.due("11: NO_SUCH before BAD_VALUE", x.deadlock(i, 7), SleepSteps.NO_SUCH);
        }
        for (int what : new int[] {-1, 7, 8, Integer.MIN_VALUE, Integer.MAX_VALUE}) {
            Checks.due("11: deadlock(0, " + what + ")", x.deadlock(0, what), SleepSteps.BAD_VALUE);
        }
        Checks.due("11: no deadlock", Checks.with("r0", "r0").deadlock(0, 0), SleepSteps.NO_SUCH);
    }

    private static void dueRuns(SleepSteps x, long whole, long toDeadlocks) {
        String programs = Checks.programs(x);
        Checks.due("12: runs(0) of " + programs, x.runs(0), whole);
        Checks.due("12: runs(1) of " + programs, x.runs(1), toDeadlocks);
    }

    private static void promise12() {
        dueRuns(Checks.with("r0", "w0", "r0", "w1"), 24, 0);
        dueRuns(Checks.with("r0r0", "r0r0"), 6, 0);
        dueRuns(Checks.with("l0", "l0"), 2, 2);
        dueRuns(Checks.with("l0u0", "l0u0"), 2, 0);
        dueRuns(Checks.with("l0l1", "l1l0"), 4, 4);
        dueRuns(crossed(), 6, 2);
        dueRuns(Checks.with("l0u0", "", "", "l0"), 2, 1);
    }

    private static void dueSleeping(SleepSteps x, long ends, long cuts, long deadlocks) {
        String programs = Checks.programs(x);
        Checks.due("13: sleeping(0) of " + programs, x.sleeping(0), ends);
        Checks.due("13: sleeping(1) of " + programs, x.sleeping(1), cuts);
        Checks.due("13: sleeping(2) of " + programs, x.sleeping(2), deadlocks);
    }

    private static void promise13() {
        dueSleeping(Checks.with("w0", "w1"), 1, 1, 0);
        dueSleeping(Checks.with("w0", "w0"), 2, 0, 0);
        dueSleeping(Checks.with("r0", "r0", "r0"), 1, 3, 0);
        dueSleeping(Checks.with("r0", "w0"), 2, 0, 0);
        dueSleeping(Checks.with("l0", "l0"), 2, 0, 2);
        dueSleeping(Checks.with("l0", "w0"), 1, 1, 0);
        dueSleeping(crossed(), 3, 2, 1);
        // Both orders of the writes come to the one deadlock.
        SleepSteps x = Checks.with("l0w2l1u1u0", "l1w2l0u0u1");
        Checks.due("13: sleeping(2), each stand once", x.sleeping(2), 1);
        Checks.due("13: sleeping(0), each time", x.sleeping(0), 4);
    }

    private static void dueWay(SleepSteps x, String way) {
        String programs = Checks.programs(x);
        int length = way.isEmpty() ? SleepSteps.NONE : way.length();
        Checks.due("14: wayToDeadlock(-1) of " + programs, x.wayToDeadlock(-1), length);
        Checks.dueText("14: way of " + programs, Checks.way(x), way);
        Checks.due("14: behind it", x.wayToDeadlock(way.length()), SleepSteps.NONE);
        Checks.due("14: far behind it", x.wayToDeadlock(Integer.MAX_VALUE), SleepSteps.NONE);
        Checks.due("14: wayToDeadlock(-2)", x.wayToDeadlock(-2), SleepSteps.BAD_VALUE);
        Checks.due("14: wayToDeadlock(least)", x.wayToDeadlock(Integer.MIN_VALUE), SleepSteps.BAD_VALUE);
    }

    private static void promise14() {
        dueWay(crossed(), "01");
        dueWay(Checks.with("r0l0l1u1u0", "r0l1l0u0u1"), "0011");
        dueWay(Checks.with("r0", "l0l1u1u0", "l1l0u0u1"), "012");
        dueWay(Checks.with("l0w0w0w0", "l0"), "1");
        dueWay(Checks.with("", "", "l0", "l0"), "2");
        dueWay(Checks.with("l0u0", "l0u0"), "");
        dueWay(Checks.with("l0l1u1u0", "l1l2u2u1", "l2l3u3u2", "l3l0u0u3"), "0123");
        // A run that begins with 0 comes to a deadlock, too, but later.
        dueWay(Checks.with("l0r0u0", "l1l0", "l0l1u0u1"), "11");
    }

    private static void promise15() {
        SleepSteps x = crossed();
        int[] due = {0, 0, 1, 1};
        for (int lock = 0; lock < 4; lock++) {
            Checks.due("15: without(" + lock + ")", x.without(lock), due[lock]);
            Checks.due("15: the programs stay", x.stands(2), 1);
        }
        Checks.dueText("15: the programs stay", Checks.programs(x), "l0l1u1u0,l1l0u0u1,,");
        Checks.due("15: it is no change", x.count(6), 2);
        SleepSteps gate = Checks.with("l2l0l1u1u0u2", "l2l1l0u0u1u2");
        Checks.due("15: stands(2)", gate.stands(2), 0);
        Checks.due("15: without(0)", gate.without(0), 0);
        Checks.due("15: without(2)", gate.without(2), 1);
        Checks.due("15: without(3)", gate.without(3), 0);
        SleepSteps three = Checks.with("l0l1", "l1l0", "l3", "l3");
        Checks.due("15: stands(2)", three.stands(2), 6);
        Checks.due("15: without(0)", three.without(0), 4);
        Checks.due("15: without(3)", three.without(3), 3);
        for (int lock : new int[] {-1, 4, Integer.MIN_VALUE, Integer.MAX_VALUE}) {
            Checks.due("15: without(" + lock + ")", x.without(lock), SleepSteps.NO_SUCH);
        }
        SleepSteps kept = crossed();
        Checks.keep(kept, "00");
        kept.without(0);
        Checks.due("15: the kept run stays", kept.count(7), 2);
    }

    private static void wrongValues() {
        SleepSteps x = crossed();
        for (int what : new int[] {-1, 3, Integer.MIN_VALUE, Integer.MAX_VALUE}) {
            Checks.due("10: stands(" + what + ")", x.stands(what), SleepSteps.BAD_VALUE);
            Checks.due("12: runs(" + what + ")", x.runs(what), SleepSteps.BAD_VALUE);
            Checks.due("13: sleeping(" + what + ")", x.sleeping(what), SleepSteps.BAD_VALUE);
        }
        Checks.due("12: runs(2)", x.runs(2), SleepSteps.BAD_VALUE);
        Checks.due("12: runs(0) after it", x.runs(0), 6);
    }

    /** Six steps in each of four threads. */
    private static void mostSteps() {
        String writes = "w0w0w0w0w0w0";
        SleepSteps x = Checks.with(writes, writes, writes, writes);
        dueStands(x, 2401, 1, 0);
        dueRuns(x, MOST_RUNS, 0);
        dueSleeping(x, MOST_RUNS, 0, 0);
        dueWay(x, "");
        String reads = "r0r0r0r0r0r0";
        SleepSteps y = Checks.with(reads, reads, reads, reads);
        dueStands(y, 2401, 1, 0);
        dueRuns(y, MOST_RUNS, 0);
        dueSleeping(y, 1, 342, 0);
        // No run to a deadlock can be longer: all but one step are done.
        SleepSteps z = Checks.with("w0w0w0w0w0l0", writes, writes, "w0w0w0w0w0l0");
        dueStands(z, 2401 - 49, 2, 2);
        dueWay(z, "00000011111122222233333");
        dueDeadlock(z, 0, 5, 6, 6, 6, 1, 23, 1);
        dueDeadlock(z, 1, 6, 6, 6, 5, 8, 23, 1);
    }

    /** What was counted once must be counted anew when the programs change, in whatever way. */
    private static void newPrograms() {
        SleepSteps x = crossed();
        dueStands(x, 19, 2, 1);
        dueSleeping(x, 3, 2, 1);
        dueWay(x, "01");
        x.exchange(1, 0);
        x.exchange(1, 2);
        Checks.due("10: after exchange", x.stands(2), 0);
        Checks.due("13: after exchange", x.sleeping(0), 2);
        dueWay(x, "");
        x.undo();
        x.undo();
        Checks.due("10: after undo", x.stands(0), 19);
        dueSleeping(x, 3, 2, 1);
        x.save(0);
        Checks.program(x, 1, "");
        Checks.due("10: after program", x.stands(0), 5);
        dueSleeping(x, 1, 0, 0);
        x.restore(0);
        dueSleeping(x, 3, 2, 1);
        Checks.due("15: without(0)", x.without(0), 0);
        dueSleeping(x, 3, 2, 1);
        dueRuns(x, 6, 2);
    }

    private static void newStepsOfTheSameNumber() {
        SleepSteps x = Checks.with("l0", "l0");
        dueStands(x, 3, 2, 2);
        Checks.program(x, 0, "l1");
        dueStands(x, 4, 1, 0);
        Checks.program(x, 1, "l1");
        dueStands(x, 3, 2, 2);
        Checks.program(x, 0, "w1");
        Checks.program(x, 1, "r0");
        dueStands(x, 4, 1, 0);
        dueSleeping(x, 1, 1, 0);
        Checks.program(x, 1, "r1");
        dueSleeping(x, 2, 0, 0);
        SleepSteps y = Checks.with("", "", "r0r0r0r0r0l0", "r0r0r0r0r0l0");
        dueStands(y, 48, 2, 2);
        Checks.program(y, 3, "r0r0r0r0r0l1");
        dueStands(y, 49, 1, 0);
        Checks.program(y, 2, "r0r0r0r0r0l1");
        dueStands(y, 48, 2, 2);
    }

    private static void firstAskedWithoutSteps() {
        SleepSteps x = new SleepSteps();
        dueStands(x, 1, 1, 0);
        for (int thread = 0; thread < 4; thread++) {
            Checks.program(x, thread, "l3");
        }
        dueStands(x, 5, 4, 4);
    }
}
