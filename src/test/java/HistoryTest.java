/** Promises 21 to 23: undo, save, restore. */
public final class HistoryTest {
    public static void main(String[] args) {
        promise21();
        promise21Oldest();
        promise21NoChanges();
        promise22();
        promise23();
        promise23Errors();
        Checks.finish();
    }

    private static void promise21() {
        SleepSteps x = new SleepSteps();
        Checks.due("21: undo() of nothing", x.undo(), SleepSteps.NOT_POSSIBLE);
        Checks.program(x, 0, "r0w1");
        Checks.program(x, 1, "w1");
        Checks.keep(x, "010");
        x.exchange(0, 0);
        Checks.put(x, "pad");
        Checks.due("21: undo() of exchange", x.undo(), 3);
        Checks.dueText("21: programs", Checks.programs(x), "r0w1,w1,,");
        Checks.dueText("21: the kept run, too", Checks.least(x), "010");
        Checks.due("21: undo() of keep", x.undo(), 2);
        Checks.due("21: no kept run", x.count(7), 0);
        Checks.due("21: undo() of program", x.undo(), 1);
        Checks.dueText("21: programs", Checks.programs(x), "r0w1,,,");
        Checks.due("21: undo() of the first change", x.undo(), 0);
        Checks.dueText("21: programs", Checks.programs(x), ",,,");
        Checks.due("21: undo() of nothing", x.undo(), SleepSteps.NOT_POSSIBLE);
        Checks.due("21: the pad stays", x.count(5), 3);
        Checks.due("21: count(6)", x.count(6), 0);
    }

    /** Seven changes and more: six states are kept. */
    private static void promise21Oldest() {
        for (int changes = 1; changes <= 20; changes++) {
            SleepSteps x = new SleepSteps();
            for (int i = 1; i <= changes; i++) {
                Checks.program(x, 0, "r0r1r2r3w0w1".substring(0, 2 * (i % 7)));
                Checks.due("21: count(6)", x.count(6), Math.min(i, 6));
            }
            int undone = Math.min(changes, 6);
            for (int i = 1; i <= undone; i++) {
                Checks.due("21: undo()", x.undo(), undone - i);
                Checks.due("21: count(0)", x.count(0), (changes - i) % 7);
            }
            Checks.due("21: the oldest is dropped", x.undo(), SleepSteps.NOT_POSSIBLE);
            Checks.due("21: count(0)", x.count(0), Math.max(0, changes - 6) % 7);
            Checks.due("21: a change after it", Checks.program(x, 3, "r0"), 1);
            Checks.due("21: undo() of it", x.undo(), 0);
        }
        SleepSteps y = new SleepSteps();
        Checks.program(y, 0, "r0");
        Checks.program(y, 0, "r0r0");
        y.undo();
        Checks.program(y, 0, "r0r0r0");
        Checks.due("21: undo() after undo and change", y.undo(), 1);
        Checks.due("21: count(0)", y.count(0), 1);
    }

    /** Each change is recorded, also if nothing is different then; each other call is not. */
    private static void promise21NoChanges() {
        SleepSteps x = new SleepSteps();
        Checks.program(x, 2, "");
        Checks.due("21: an empty program", x.count(6), 1);
        Checks.keep(x, "");
        Checks.due("21: an empty run", x.count(6), 2);
        Checks.program(x, 2, "r0r0");
        x.exchange(2, 0);
        Checks.due("21: an exchange of steps that are alike", x.count(6), 4);
        x.save(0);
        Checks.due("21: save is no change", x.count(6), 4);
        x.restore(0);
        Checks.due("21: a restore of what is there", x.count(6), 5);
        Checks.program(x, 2, "x");
        x.program(9);
        x.exchange(2, 1);
        Checks.keep(x, "0");
        x.alike();
        x.without(0);
        x.restore(1);
        x.restore(2);
        x.wipe();
        Checks.due("21: errors and questions are no changes", x.count(6), 5);
        for (int i = 4; i >= 0; i--) {
            Checks.due("21: undo()", x.undo(), i);
        }
    }

    private static void promise22() {
        SleepSteps x = Checks.with("r0w1", "l0u0l1");
        Checks.due("22: save(0)", x.save(0), 5);
        for (int slot : new int[] {-1, 2, 3, Integer.MIN_VALUE, Integer.MAX_VALUE}) {
            Checks.due("22: save(" + slot + ")", x.save(slot), SleepSteps.BAD_VALUE);
        }
        Checks.keep(x, "011");
        Checks.due("22: save(1)", x.save(1), 5);
        Checks.program(x, 0, "");
        x.restore(0);
        Checks.due("22: without a kept run", x.count(7), 0);
        x.restore(1);
        Checks.due("22: with a kept run", x.count(7), 3);
        Checks.program(x, 0, "w3");
        Checks.due("22: save(1) again", x.save(1), 4);
        Checks.program(x, 0, "w2w2");
        Checks.due("22: it overwrites", x.restore(1), 4);
        Checks.dueText("22: programs", Checks.programs(x), "w3,l0u0l1,,");
        Checks.due("22: the other slot stays", x.restore(0), 5);
        Checks.due("22: save of nothing", new SleepSteps().save(1), 0);
    }

    private static void promise23() {
        SleepSteps x = Checks.with("r0w1", "w1");
        Checks.keep(x, "010");
        x.save(0);
        Checks.program(x, 0, "");
        Checks.program(x, 1, "");
        Checks.put(x, "pad");
        Checks.due("23: restore(0)", x.restore(0), 3);
        Checks.dueText("23: programs", Checks.programs(x), "r0w1,w1,,");
        Checks.dueText("23: the kept run", Checks.least(x), "010");
        Checks.due("23: the pad stays", x.count(5), 3);
        Checks.due("23: it is a change", x.count(6), 6);
        Checks.due("23: undo() of restore", x.undo(), 5);
        Checks.due("23: no programs again", x.count(4), 0);
        Checks.due("23: the slot keeps it", x.restore(0), 3);
        Checks.program(x, 0, "w0w0");
        x.exchange(0, 0);
        Checks.due("23: the slot keeps it still", x.restore(0), 3);
        Checks.dueText("23: programs", Checks.programs(x), "r0w1,w1,,");
        for (int i = 0; i < 6; i++) {
            x.undo();
        }
        Checks.due("23: undo leaves the slots alone", x.restore(0), 3);
        SleepSteps y = new SleepSteps();
        y.save(1);
        Checks.program(y, 0, "r0");
        Checks.due("23: restore of empty programs", y.restore(1), 0);
        Checks.due("23: undo() of it", y.undo(), 1);
        Checks.due("23: count(0)", y.count(0), 1);
    }

    private static void promise23Errors() {
        SleepSteps x = Checks.with("r0w1", "w1");
        Checks.keep(x, "0");
        for (int slot : new int[] {-1, 2, 3, Integer.MIN_VALUE, Integer.MAX_VALUE}) {
            Checks.due("23: restore(" + slot + ")", x.restore(slot), SleepSteps.BAD_VALUE);
        }
        Checks.due("23: restore(0)", x.restore(0), SleepSteps.NOT_POSSIBLE);
        x.save(1);
        Checks.due("23: restore(0) still", x.restore(0), SleepSteps.NOT_POSSIBLE);
        Checks.due("23: an error is no change", x.count(6), 3);
        Checks.due("23: the kept run stays", x.count(7), 1);
        Checks.due("23: restore(1)", x.restore(1), 3);
    }
}
