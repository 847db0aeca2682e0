import java.util.ArrayList;
import java.util.List;

/**
 * "A call that returns an error changes nothing": each error of each method, in several states, and that every
 * other call answers then as it did before. The same for each call that only asks.
 */
public final class RefusedTest {
    private static final int LEAST = Integer.MIN_VALUE;
    private static final int MOST = Integer.MAX_VALUE;
    private static final String FULL = "r0w1l2u2r3w3r0w1l2u2r3w3r0w1l2u2r3w3r0w1";

    public static void main(String[] args) {
        put();
        putTooMany();
        fault();
        program();
        exchange();
        keep();
        ofStep();
        count();
        stands();
        deadlock();
        runsAndSleeping();
        wayAndWithout();
        least();
        alike();
        lastWrite();
        undo();
        saveAndRestore();
        questions();
        Checks.finish();
    }

    /** A deadlock, a kept run, a full history, slot 0 with another state, and a text in the pad. */
    private static Scene busy(String pad) {
        return new Scene("busy with \"" + pad + "\"", () -> {
            SleepSteps x = Checks.with("l0w0l1u1u0", "l1r0l0u0u1", "w2r2", "r2");
            Checks.keep(x, "0232");
            x.save(0);
            x.exchange(2, 0);
            Checks.program(x, 3, "r2w0");
            Checks.keep(x, "003221");
            Checks.put(x, pad);
            return x;
        });
    }

    /** Two changes to undo, so that a third one would be told. */
    private static Scene young(String pad) {
        return new Scene("young with \"" + pad + "\"", () -> {
            SleepSteps x = Checks.with("w0r1");
            Checks.keep(x, "0");
            Checks.put(x, pad);
            return x;
        });
    }

    private static Scene fresh(String pad) {
        return new Scene("new with \"" + pad + "\"", () -> {
            SleepSteps x = new SleepSteps();
            Checks.put(x, pad);
            return x;
        });
    }

    private static List<Scene> all(String pad) {
        return new ArrayList<>(List.of(busy(pad), young(pad), fresh(pad)));
    }

    private static void put() {
        long[] bad = {0, 32, 127, 0x1F, 0x80, -1, Long.MIN_VALUE, Long.MAX_VALUE, 0x3000, 0x300030L,
            0x3000000000000030L, 0x2030303030303030L, 0x303030303030307FL, 0x0100000000000030L};
        for (String pad : new String[] {"", "r0", FULL}) {
            Scene scene = busy(pad);
            for (long number : bad) {
                scene.leavesAll("put(" + number + ")", x -> x.put(number), SleepSteps.BAD_VALUE);
            }
        }
    }

    private static void putTooMany() {
        for (int length = 33; length <= 40; length++) {
            Scene scene = young(FULL.substring(0, length));
            String fewest = "01230123".substring(0, 41 - length);
            scene.leavesAll("put " + fewest, x -> x.put(Checks.pack(fewest)), SleepSteps.TOO_MANY);
            scene.leavesAll("put of 8", x -> x.put(Checks.pack("01230123")), SleepSteps.TOO_MANY);
        }
    }

    private static void fault() {
        for (Scene scene : all("r0x")) {
            scene.leavesAll("fault", new int[] {-1, 2, LEAST, MOST}, how -> x -> x.fault(how), SleepSteps.BAD_VALUE);
        }
    }

    private static void program() {
        for (Scene scene : all("w0r1")) {
            scene.leavesAll("program", new int[] {-1, 4, LEAST, MOST}, at -> x -> x.program(at), SleepSteps.NO_SUCH);
        }
        int[] threads = {0, 3};
        for (String pad : new String[] {"r", "r4", "0", "r0r0r0r0r0r0r", "r0r0r0r0r0r0r0", "u0x", "l0l0w", FULL}) {
            busy(pad).leavesAll("program", threads, at -> x -> x.program(at), SleepSteps.BAD_TEXT);
        }
        for (String pad : new String[] {"u0", "l0l0", "l0u0u0", "l0u1", "w0w0w0w0w0u3"}) {
            for (Scene scene : all(pad)) {
                scene.leavesAll("program", threads, at -> x -> x.program(at), SleepSteps.NOT_POSSIBLE);
            }
        }
    }

    private static void exchange() {
        Scene scene = busy("w0");
        int[] badThreads = {-1, 4, LEAST, MOST};
        scene.leavesAll("exchange(thread, 0)", badThreads, at -> x -> x.exchange(at, 0), SleepSteps.NO_SUCH);
        int[] badSteps = {-1, 4, 5, LEAST, MOST};
        scene.leavesAll("exchange(0, step)", badSteps, at -> x -> x.exchange(0, at), SleepSteps.NO_SUCH);
        int[] badStepsOfTwo = {-1, 1, 2};
        scene.leavesAll("exchange(2, step)", badStepsOfTwo, at -> x -> x.exchange(2, at), SleepSteps.NO_SUCH);
        young("").leavesAll("exchange(0, step)", badStepsOfTwo, at -> x -> x.exchange(0, at), SleepSteps.NO_SUCH);
        fresh("").leavesAll("exchange(0, step)", badStepsOfTwo, at -> x -> x.exchange(0, at), SleepSteps.NO_SUCH);
        scene.leavesAll("exchange(0, 2)", x -> x.exchange(0, 2), SleepSteps.NOT_POSSIBLE);
        scene.leavesAll("exchange(1, 2)", x -> x.exchange(1, 2), SleepSteps.NOT_POSSIBLE);
        Scene locks = new Scene("l0u0l0", () -> Checks.with("l0u0l0"));
        locks.leavesAll("exchange(0, step)", new int[] {0, 1}, at -> x -> x.exchange(0, at), SleepSteps.NOT_POSSIBLE);
    }

    private static void keep() {
        for (String pad : new String[] {"4", "00x", "r0", "000000000000000000000000x", FULL}) {
            for (Scene scene : all(pad)) {
                scene.leavesAll("keep()", x -> x.keep(), SleepSteps.BAD_TEXT);
            }
        }
        busy("0000000000000000000000000").leavesAll("keep() of 25", x -> x.keep(), SleepSteps.BAD_TEXT);
        for (String pad : new String[] {"3333", "222", "000000", "000000000000000000000000"}) {
            for (Scene scene : all(pad)) {
                scene.leavesAll("keep()", x -> x.keep(), SleepSteps.NOT_POSSIBLE);
            }
        }
        busy("0111").leavesAll("keep() at a held lock", x -> x.keep(), SleepSteps.NOT_POSSIBLE);
        busy("0000022330").leavesAll("keep() of a step too many", x -> x.keep(), SleepSteps.NOT_POSSIBLE);
    }

    private static void ofStep() {
        Scene scene = busy("0");
        int[] badThreads = {-1, 4, LEAST, MOST};
        int[] badSteps = {-1, 5, 6, LEAST, MOST};
        int[] badWhats = {-1, 3, LEAST, MOST};
        scene.leavesAll("ofStep(thread, 0, 0)", badThreads, at -> x -> x.ofStep(at, 0, 0), SleepSteps.NO_SUCH);
        scene.leavesAll("ofStep(0, step, 0)", badSteps, at -> x -> x.ofStep(0, at, 0), SleepSteps.NO_SUCH);
        scene.leavesAll("ofStep(0, 5, what)", badWhats, at -> x -> x.ofStep(0, 5, at), SleepSteps.NO_SUCH);
        scene.leavesAll("ofStep(0, 4, what)", badWhats, at -> x -> x.ofStep(0, 4, at), SleepSteps.BAD_VALUE);
        fresh("").leavesAll("ofStep(0, 0, what)", badWhats, at -> x -> x.ofStep(0, 0, at), SleepSteps.NO_SUCH);
    }

    private static void count() {
        int[] bad = {-1, 9, LEAST, MOST};
        for (Scene scene : all("01")) {
            scene.leavesAll("count", bad, what -> x -> x.count(what), SleepSteps.BAD_VALUE);
        }
    }

    private static void stands() {
        int[] bad = {-1, 3, LEAST, MOST};
        for (Scene scene : all("01")) {
            scene.leavesAll("stands", bad, what -> x -> x.stands(what), SleepSteps.BAD_VALUE);
        }
    }

    private static void deadlock() {
        int[] badWhats = {-1, 7, LEAST, MOST};
        Scene scene = busy("01");
        int[] badIndices = {-1, 1, LEAST, MOST};
        scene.leavesAll("deadlock(i, 0)", badIndices, i -> x -> x.deadlock(i, 0), SleepSteps.NO_SUCH);
        scene.leavesAll("deadlock(1, what)", badWhats, at -> x -> x.deadlock(1, at), SleepSteps.NO_SUCH);
        scene.leavesAll("deadlock(0, what)", badWhats, at -> x -> x.deadlock(0, at), SleepSteps.BAD_VALUE);
        fresh("").leavesAll("deadlock(0, 0)", x -> x.deadlock(0, 0), SleepSteps.NO_SUCH);
        fresh("").leavesAll("deadlock(0, what)", badWhats, at -> x -> x.deadlock(0, at), SleepSteps.NO_SUCH);
    }

    private static void runsAndSleeping() {
        for (Scene scene : all("01")) {
            int[] badRuns = {-1, 2, LEAST, MOST};
            scene.leavesAll("runs", badRuns, what -> x -> x.runs(what), SleepSteps.BAD_VALUE);
            int[] badSleeping = {-1, 3, LEAST, MOST};
            scene.leavesAll("sleeping", badSleeping, what -> x -> x.sleeping(what), SleepSteps.BAD_VALUE);
        }
    }

    private static void wayAndWithout() {
        for (Scene scene : all("01")) {
            int[] badPlaces = {-2, LEAST};
            scene.leavesAll("wayToDeadlock", badPlaces, at -> x -> x.wayToDeadlock(at), SleepSteps.BAD_VALUE);
            int[] badLocks = {-1, 4, LEAST, MOST};
            scene.leavesAll("without", badLocks, lock -> x -> x.without(lock), SleepSteps.NO_SUCH);
        }
    }

    private static void least() {
        for (Scene scene : all("01")) {
            scene.leavesAll("least", new int[] {-1, -2, LEAST}, at -> x -> x.least(at), SleepSteps.BAD_VALUE);
        }
    }

    private static void alike() {
        for (String pad : new String[] {"x", "4", "00322/", "r0", "000000000000000000000000x", FULL}) {
            for (Scene scene : all(pad)) {
                scene.leavesAll("alike()", x -> x.alike(), SleepSteps.BAD_TEXT);
            }
        }
    }

    private static void lastWrite() {
        int[] badNames = {-1, 4, LEAST, MOST};
        int[] badWhats = {-1, 2, LEAST, MOST};
        for (Scene scene : all("01")) {
            scene.leavesAll("lastWrite(variable, 0)", badNames, at -> x -> x.lastWrite(at, 0), SleepSteps.NO_SUCH);
            scene.leavesAll("lastWrite(variable, 2)", badNames, at -> x -> x.lastWrite(at, 2), SleepSteps.NO_SUCH);
            scene.leavesAll("lastWrite(0, what)", badWhats, at -> x -> x.lastWrite(0, at), SleepSteps.BAD_VALUE);
            scene.leavesAll("lastWrite(3, what)", badWhats, at -> x -> x.lastWrite(3, at), SleepSteps.BAD_VALUE);
        }
    }

    private static void undo() {
        fresh("r0").leavesAll("undo()", x -> x.undo(), SleepSteps.NOT_POSSIBLE);
        Scene undone = new Scene("all undone", () -> {
            SleepSteps x = busy("r0").make();
            for (int i = 0; i < 6; i++) {
                x.undo();
            }
            return x;
        });
        undone.leavesAll("undo()", x -> x.undo(), SleepSteps.NOT_POSSIBLE);
    }

    private static void saveAndRestore() {
        int[] bad = {-1, 2, LEAST, MOST};
        for (Scene scene : all("01")) {
            scene.leavesAll("save", bad, slot -> x -> x.save(slot), SleepSteps.BAD_VALUE);
            scene.leavesAll("restore", bad, slot -> x -> x.restore(slot), SleepSteps.BAD_VALUE);
            scene.leavesAll("restore(1)", x -> x.restore(1), SleepSteps.NOT_POSSIBLE);
        }
        fresh("01").leavesAll("restore(0)", x -> x.restore(0), SleepSteps.NOT_POSSIBLE);
        young("01").leavesAll("restore(0)", x -> x.restore(0), SleepSteps.NOT_POSSIBLE);
    }

    /** Calls that only ask, answered with a number or with NONE. */
    private static void questions() {
        Scene scene = busy("030221");
        scene.leavesAll("fault(0)", x -> x.fault(0), 0);
        scene.leavesAll("fault(1)", x -> x.fault(1), SleepSteps.NONE);
        scene.leavesAll("ofStep(0, 4, 1)", x -> x.ofStep(0, 4, 1), 0);
        scene.leavesAll("count(6)", x -> x.count(6), 6);
        scene.leavesAll("stands(2)", x -> x.stands(2), 1);
        scene.leavesAll("deadlock(0, 6)", x -> x.deadlock(0, 6), 3);
        scene.leavesAll("runs(1) is positive", x -> x.runs(1) > 0 ? 1 : 0, 1);
        scene.leavesAll("sleeping(2)", x -> x.sleeping(2), 1);
        scene.leavesAll("wayToDeadlock(0)", x -> x.wayToDeadlock(0), 0);
        scene.leavesAll("wayToDeadlock(24)", x -> x.wayToDeadlock(24), SleepSteps.NONE);
        scene.leavesAll("without(0)", x -> x.without(0), 0);
        scene.leavesAll("without(3)", x -> x.without(3), 1);
        scene.leavesAll("least(0)", x -> x.least(0), 0);
        scene.leavesAll("least(6)", x -> x.least(6), SleepSteps.NONE);
        scene.leavesAll("alike()", x -> x.alike(), 1);
        busy("000000").leavesAll("alike() of a run that cannot go", x -> x.alike(), 0);
        scene.leavesAll("chain()", x -> x.chain(), 2);
        scene.leavesAll("lastWrite(2, 1)", x -> x.lastWrite(2, 1), 1);
        scene.leavesAll("lastWrite(3, 0)", x -> x.lastWrite(3, 0), SleepSteps.NONE);
        scene.leavesAll("alikeRuns() is positive", x -> x.alikeRuns() > 0 ? 1 : 0, 1);
    }
}
