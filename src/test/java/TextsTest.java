/** Promises 1 to 4: a new object, put, wipe, fault. */
public final class TextsTest {
    public static void main(String[] args) {
        promise1();
        promise2();
        promise2Full();
        promise3();
        promise4AsProgram();
        promise4AsRun();
        Checks.finish();
    }

    private static void promise1() {
        SleepSteps x = new SleepSteps();
        for (int what = 0; what <= 8; what++) {
            Checks.due("1: count(" + what + ")", x.count(what), 0);
        }
        for (int thread = 0; thread < 4; thread++) {
            Checks.due("1: ofStep(" + thread + ", 0, 0)", x.ofStep(thread, 0, 0), SleepSteps.NO_SUCH);
        }
        Checks.due("1: stands(0)", x.stands(0), 1);
        Checks.due("1: stands(1)", x.stands(1), 1);
        Checks.due("1: stands(2)", x.stands(2), 0);
        Checks.due("1: deadlock(0, 0)", x.deadlock(0, 0), SleepSteps.NO_SUCH);
        Checks.due("1: runs(0)", x.runs(0), 1);
        Checks.due("1: runs(1)", x.runs(1), 0);
        Checks.due("1: sleeping(0)", x.sleeping(0), 1);
        Checks.due("1: sleeping(1)", x.sleeping(1), 0);
        Checks.due("1: sleeping(2)", x.sleeping(2), 0);
        Checks.due("1: wayToDeadlock(-1)", x.wayToDeadlock(-1), SleepSteps.NONE);
        Checks.due("1: without(0)", x.without(0), 0);
        Checks.due("1: least(0)", x.least(0), SleepSteps.NONE);
        Checks.due("1: alike()", x.alike(), 1);
        Checks.due("1: chain()", x.chain(), 0);
        Checks.due("1: lastWrite(0, 0)", x.lastWrite(0, 0), SleepSteps.NONE);
        Checks.due("1: alikeRuns()", x.alikeRuns(), 1);
        Checks.due("1: undo()", x.undo(), SleepSteps.NOT_POSSIBLE);
        Checks.due("1: restore(0)", x.restore(0), SleepSteps.NOT_POSSIBLE);
        Checks.due("1: restore(1)", x.restore(1), SleepSteps.NOT_POSSIBLE);
        Checks.due("1: wipe()", x.wipe(), 0);
    }

    private static void promise2() {
        SleepSteps x = new SleepSteps();
        Checks.due("2: put('r')", x.put('r'), 1);
        Checks.due("2: put('0')", x.put('0'), 2);
        Checks.due("2: put(r0w1r2w3)", x.put(Checks.pack("r0w1r2w3")), 10);
        Checks.due("2: the last character is the lowest", x.program(0), 5);
        Checks.dueText("2: the order of the characters", Checks.programs(x), "r0r0w1r2w3,,,");
        Checks.due("2: put(33)", x.put(33), 1);
        Checks.due("2: put(126)", x.put(126), 2);
        Checks.due("2: put(!~!~!~!~)", x.put(Checks.pack("!~!~!~!~")), 10);
        long[] bad = {
            0, 1, 32, 127, 128, 255, 256, -1, Long.MIN_VALUE, Long.MAX_VALUE,
            Checks.pack("r") << 8, Checks.pack("r") << 56, 0x720030L, 0x7200000000000030L, 0x8000000000000030L,
            0x0100000000000030L, 0x3020L, 0x2030L, 0x7F30L, 0x307FL, 0x8030L, 0xFF30L,
            0x2030303030303030L, 0x3030303030303020L, 0xF230303030303030L, 0x3030303080303030L,
        };
        for (long number : bad) {
            Checks.due("2: put(" + number + ")", x.put(number), SleepSteps.BAD_VALUE);
        }
        Checks.due("2: nothing is put by an error", x.count(5), 10);
    }

    private static void promise2Full() {
        SleepSteps x = new SleepSteps();
        for (int i = 1; i <= 4; i++) {
            Checks.due("2: put(8 characters)", x.put(Checks.pack("01230123")), 8 * i);
        }
        Checks.due("2: put(7 characters)", x.put(Checks.pack("0123012")), 39);
        Checks.due("2: put(2 characters) at 39", x.put(Checks.pack("00")), SleepSteps.TOO_MANY);
        Checks.due("2: put(8 characters) at 39", x.put(Checks.pack("00000000")), SleepSteps.TOO_MANY);
        Checks.due("2: BAD_VALUE before TOO_MANY", x.put(0x2020L), SleepSteps.BAD_VALUE);
        Checks.due("2: put(0) at 39", x.put(0), SleepSteps.BAD_VALUE);
        Checks.due("2: count(5) is as before", x.count(5), 39);
        Checks.due("2: the largest pad", x.put('3'), 40);
        Checks.due("2: put('3') at 40", x.put('3'), SleepSteps.TOO_MANY);
        Checks.due("2: put(32) at 40", x.put(32), SleepSteps.BAD_VALUE);
        Checks.due("2: count(5)", x.count(5), 40);
        Checks.due("2: a pad is not a change", x.count(6), 0);
    }

    private static void promise3() {
        SleepSteps x = new SleepSteps();
        Checks.due("3: wipe() of nothing", x.wipe(), 0);
        Checks.put(x, "l0u0");
        Checks.due("3: wipe()", x.wipe(), 4);
        Checks.due("3: count(5)", x.count(5), 0);
        Checks.due("3: wipe() again", x.wipe(), 0);
        Checks.due("3: put after wipe", x.put('w'), 1);
        Checks.due("3: fault after wipe", x.fault(0), 1);
        Checks.write(x, "0123012301230123012301230123012301230123");
        Checks.due("3: wipe() of the largest pad", x.wipe(), 40);
        Checks.due("3: wiping is not a change", x.count(6), 0);
    }

    private static void dueFault(String text, int how, int want) {
        SleepSteps x = new SleepSteps();
        Checks.put(x, text);
        Checks.due("4: fault(" + how + ") of " + text, x.fault(how), want);
        Checks.due("4: the pad stays", x.count(5), text.length());
    }

    private static void promise4AsProgram() {
        int none = SleepSteps.NONE;
        dueFault("", 0, none);
        dueFault("r0", 0, none);
        dueFault("w3", 0, none);
        dueFault("l1u1", 0, none);
        dueFault("u2", 0, none);
        dueFault("l0l0", 0, none);
        dueFault("r", 0, 1);
        dueFault("r0w1u", 0, 5);
        dueFault("0", 0, 0);
        dueFault("R0", 0, 0);
        dueFault("x0", 0, 0);
        dueFault("r4", 0, 1);
        dueFault("r/", 0, 1);
        dueFault("rr", 0, 1);
        dueFault("r0w", 0, 3);
        dueFault("r0w1x", 0, 4);
        dueFault("r0w1l2u9", 0, 7);
        dueFault("r0w1l2u2r3w", 0, 11);
        dueFault("r0w1l2u2r3w3", 0, none);
        dueFault("r0w1l2u2r3w3r", 0, 12);
        dueFault("r0w1l2u2r3w3r0", 0, 12);
        dueFault("r0w1l2u2r3w3x", 0, 12);
        dueFault("r0w1l2u2r3w4r0", 0, 11);
        dueFault("r0w1l2u2r3w3r0w1l2u2r3w3r0w1l2u2r3w3r0w1", 0, 12);
        SleepSteps x = new SleepSteps();
        for (int how : new int[] {-1, 2, 3, Integer.MIN_VALUE, Integer.MAX_VALUE}) {
            Checks.due("4: fault(" + how + ")", x.fault(how), SleepSteps.BAD_VALUE);
        }
    }

    private static void promise4AsRun() {
        int none = SleepSteps.NONE;
        dueFault("", 1, none);
        dueFault("0", 1, none);
        dueFault("0123", 1, none);
        dueFault("33333", 1, none);
        dueFault("4", 1, 0);
        dueFault("01/", 1, 2);
        dueFault("012r", 1, 3);
        dueFault("r0", 1, 0);
        dueFault("012301230123012301230123", 1, none);
        dueFault("0123012301230123012301230", 1, 24);
        dueFault("012301230123012301230123x", 1, 24);
        dueFault("0123012301230123012301x3x", 1, 22);
        dueFault("0123012301230123012301230123012301230123", 1, 24);
        dueFault("01230123012301230123012:", 1, 23);
    }
}
