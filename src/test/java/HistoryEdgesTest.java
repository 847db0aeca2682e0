/** The edges that promises 21 to 23 name: a test for each sentence, with the value at the edge and its neighbours. */
public final class HistoryEdgesTest {
    private static final int BAD_VALUE = SleepSteps.BAD_VALUE;
    private static final int NOT_POSSIBLE = SleepSteps.NOT_POSSIBLE;
    private static final int LEAST = Integer.MIN_VALUE;
    private static final int MOST = Integer.MAX_VALUE;
    private static final String SIX = "r0r1r2r3w0w1";

    public static void main(String[] args) {
        promise21NothingToUndo();
        promise21SixStatesAtMost();
        promise21EachChangeDropsTheOldest();
        promise21NothingIsDifferent();
        promise21ErrorsRecordNothing();
        promise21UndoIsNoChange();
        promise21ProgramsAndKeptRun();
        promise21ManyTimesRound();
        promise22Slot();
        promise22Overwrites();
        promise22StepsOfAllPrograms();
        promise23Slot();
        promise23NothingSaved();
        promise23SlotKeepsIt();
        promise23RestoreIsAChange();
        lastOf512Calls();
        Checks.finish();
    }

    private static void dueUndo(SleepSteps x, int due) {
        Checks.due("21: undo()", x.undo(), due);
        Checks.due("21: count(6)", x.count(6), Math.max(due, 0));
    }

    /** "NOT_POSSIBLE if there is none": at first, when all are undone, and as often as it is asked. */
    private static void promise21NothingToUndo() {
        SleepSteps x = new SleepSteps();
        dueUndo(x, NOT_POSSIBLE);
        dueUndo(x, NOT_POSSIBLE);
        Checks.program(x, 0, "r0");
        dueUndo(x, 0);
        dueUndo(x, NOT_POSSIBLE);
        Checks.due("21: count(0)", x.count(0), 0);
        Checks.program(x, 0, "r0r1");
        dueUndo(x, 0);
        dueUndo(x, NOT_POSSIBLE);
    }

    /** "A history of at most 6 states is kept .. when one more is recorded, the oldest one is dropped." */
    private static void promise21SixStatesAtMost() {
        for (int changes = 0; changes <= 14; changes++) {
            SleepSteps x = new SleepSteps();
            for (int i = 1; i <= changes; i++) {
                Checks.program(x, i % 4, SIX.substring(0, 2 * (i % 5 + 1)));
                Checks.due("21: count(6) after " + i, x.count(6), Math.min(i, 6));
            }
            int kept = Math.min(changes, 6);
            for (int i = 1; i <= kept; i++) {
                dueUndo(x, kept - i);
                Checks.dueText("21: programs", Checks.programs(x), afterChanges(changes - i));
            }
            dueUndo(x, NOT_POSSIBLE);
            Checks.dueText("21: programs", Checks.programs(x), afterChanges(changes - kept));
        }
    }

    private static String afterChanges(int changes) {
        String[] programs = {"", "", "", ""};
        for (int i = 1; i <= changes; i++) {
            programs[i % 4] = SIX.substring(0, 2 * (i % 5 + 1));
        }
        return String.join(",", programs);
    }

    private static void change(SleepSteps x, int which) {
        switch (which) {
            case 0: Checks.due("21: program", Checks.program(x, 1, "w2"), 1); break;
            case 1: Checks.due("21: exchange", x.exchange(0, 0), 1); break;
            case 2: Checks.due("21: keep", Checks.keep(x, "0"), 1); break;
            default: Checks.due("21: restore", x.restore(0), 3); break;
        }
    }

    /** "Each method that is a change .. records the state before it": as the sixth one, and as the seventh. */
    private static void promise21EachChangeDropsTheOldest() {
        for (int which = 0; which < 4; which++) {
            SleepSteps x = Checks.with("r0");
            Checks.program(x, 0, "r0w0w1");
            x.save(0);
            for (int i = 3; i <= 5; i++) {
                Checks.program(x, 0, SIX.substring(0, 2 * i));
            }
            Checks.due("21: five changes", x.count(6), 5);
            change(x, which);
            Checks.due("21: six changes", x.count(6), 6);
            dueUndo(x, 5);
            Checks.due("21: count(0)", x.count(0), 5);
            change(x, which);
            Checks.program(x, 3, "r0");
            change(x, which);
            Checks.due("21: eight changes", x.count(6), 6);
            for (int i = 5; i >= 0; i--) {
                dueUndo(x, i);
            }
            Checks.due("21: the two oldest are dropped", x.count(0), 3);
            dueUndo(x, NOT_POSSIBLE);
        }
    }

    /** "Also if nothing is different then." */
    private static void promise21NothingIsDifferent() {
        SleepSteps x = new SleepSteps();
        Checks.program(x, 0, "");
        Checks.due("21: the same program", x.count(6), 1);
        x.keep();
        Checks.due("21: the same run", x.count(6), 2);
        x.save(0);
        x.restore(0);
        Checks.due("21: the same state restored", x.count(6), 3);
        Checks.program(x, 0, "w0w0");
        x.exchange(0, 0);
        Checks.due("21: steps that are alike", x.count(6), 5);
        dueUndo(x, 4);
        Checks.dueText("21: programs", Checks.programs(x), "w0w0,,,");
        dueUndo(x, 3);
        for (int i = 2; i >= 0; i--) {
            dueUndo(x, i);
            Checks.dueText("21: programs", Checks.programs(x), ",,,");
        }
        dueUndo(x, NOT_POSSIBLE);
    }

    /** "And returns no error": with fewer than six states, with six, and with none. */
    private static void promise21ErrorsRecordNothing() {
        for (int changes : new int[] {0, 1, 5, 6, 7}) {
            SleepSteps x = new SleepSteps();
            for (int i = 1; i <= changes; i++) {
                Checks.program(x, 0, SIX.substring(0, 2 * (i % 7)));
            }
            int kept = Math.min(changes, 6);
            refusedChanges(x);
            Checks.due("21: count(6)", x.count(6), kept);
            for (int i = 1; i <= kept; i++) {
                dueUndo(x, kept - i);
                Checks.due("21: count(0)", x.count(0), (changes - i) % 7);
            }
            refusedChanges(x);
            dueUndo(x, NOT_POSSIBLE);
        }
    }

    private static void refusedChanges(SleepSteps x) {
        Checks.due("21: NO_SUCH", Checks.program(x, 4, "r0"), SleepSteps.NO_SUCH);
        Checks.due("21: BAD_TEXT", Checks.program(x, 0, "r"), SleepSteps.BAD_TEXT);
        Checks.due("21: NOT_POSSIBLE", Checks.program(x, 0, "u0"), NOT_POSSIBLE);
        Checks.due("21: NO_SUCH", x.exchange(0, 6), SleepSteps.NO_SUCH);
        Checks.due("21: BAD_TEXT", Checks.keep(x, "4"), SleepSteps.BAD_TEXT);
        Checks.due("21: NOT_POSSIBLE", Checks.keep(x, "3"), NOT_POSSIBLE);
        Checks.due("21: NOT_POSSIBLE", x.restore(0), NOT_POSSIBLE);
        Checks.due("21: BAD_VALUE", x.restore(2), BAD_VALUE);
        x.wipe();
    }

    /** An undone change is gone: undo() goes on to the one before. */
    private static void promise21UndoIsNoChange() {
        SleepSteps x = Checks.with("r0", "r1", "r2");
        dueUndo(x, 2);
        dueUndo(x, 1);
        Checks.dueText("21: programs", Checks.programs(x), "r0,,,");
        Checks.program(x, 3, "r3");
        dueUndo(x, 1);
        Checks.dueText("21: programs", Checks.programs(x), "r0,,,");
        dueUndo(x, 0);
        dueUndo(x, NOT_POSSIBLE);
    }

    /** "The programs and the kept run are as they were before it": neither the pad nor what is saved. */
    private static void promise21ProgramsAndKeptRun() {
        SleepSteps x = Checks.with("r0w1", "w1");
        Checks.keep(x, "010");
        Checks.program(x, 2, "r3");
        x.save(1);
        Checks.put(x, "0123");
        dueUndo(x, 3);
        Checks.dueText("21: programs", Checks.programs(x), "r0w1,w1,,");
        Checks.dueText("21: the kept run", Checks.least(x), "010");
        Checks.due("21: alikeRuns()", x.alikeRuns(), 2);
        Checks.due("21: lastWrite(1, 0)", x.lastWrite(1, 0), 0);
        Checks.due("21: the pad stays", x.count(5), 4);
        Checks.due("21: the slot stays", x.restore(1), 4);
        Checks.due("21: without a kept run", x.count(7), 0);
        dueUndo(x, 3);
        Checks.dueText("21: the kept run", Checks.least(x), "010");
        Checks.due("21: the other slot stays empty", x.restore(0), NOT_POSSIBLE);
    }

    /** The history goes round many times, with undo in between. */
    private static void promise21ManyTimesRound() {
        SleepSteps x = new SleepSteps();
        for (int i = 0; i < 40; i++) {
            for (int k = 1; k <= 3; k++) {
                Checks.put(x, SIX.substring(0, 2 * k));
                x.program(k);
            }
            int kept = x.count(6);
            Checks.due("21: undo()", x.undo(), kept - 1);
            Checks.due("21: count(3)", x.count(3), i == 0 ? 0 : 1);
            Checks.put(x, "w3");
            x.program(3);
            Checks.due("21: count(6)", x.count(6), kept);
        }
    }

    /** "BAD_VALUE if there is no such slot." */
    private static void promise22Slot() {
        SleepSteps x = Checks.with("r0r1");
        for (int slot : new int[] {-2, -1, 2, 3, LEAST, MOST}) {
            Checks.due("22: save(" + slot + ")", x.save(slot), BAD_VALUE);
        }
        Checks.due("22: nothing was saved in 0", x.restore(0), NOT_POSSIBLE);
        Checks.due("22: nothing was saved in 1", x.restore(1), NOT_POSSIBLE);
        Checks.due("22: save(0)", x.save(0), 2);
        Checks.due("22: nothing was saved in 1", x.restore(1), NOT_POSSIBLE);
        Checks.due("22: save(1)", x.save(1), 2);
        Checks.due("22: it is no change", x.count(6), 1);
    }

    /** "And overwrites what was saved there", and nothing else. */
    private static void promise22Overwrites() {
        SleepSteps x = Checks.with("r0");
        x.save(0);
        x.save(1);
        Checks.program(x, 1, "w1w1");
        Checks.keep(x, "101");
        Checks.due("22: save(1)", x.save(1), 3);
        Checks.program(x, 0, "");
        Checks.program(x, 1, "");
        Checks.due("22: restore(0)", x.restore(0), 1);
        Checks.dueText("22: programs", Checks.programs(x), "r0,,,");
        Checks.due("22: count(7)", x.count(7), 0);
        Checks.due("22: restore(1)", x.restore(1), 3);
        Checks.dueText("22: programs", Checks.programs(x), "r0,w1w1,,");
        Checks.dueText("22: the kept run", Checks.least(x), "011");
        Checks.program(x, 0, "");
        Checks.program(x, 1, "");
        Checks.due("22: save(1) of nothing", x.save(1), 0);
        x.restore(0);
        Checks.due("22: restore(1) of nothing", x.restore(1), 0);
        Checks.due("22: count(4)", x.count(4), 0);
    }

    /** "Returns the steps of all programs", from none to 24. */
    private static void promise22StepsOfAllPrograms() {
        SleepSteps x = new SleepSteps();
        Checks.due("22: save(0) without steps", x.save(0), 0);
        Checks.due("23: restore(0) without steps", x.restore(0), 0);
        int steps = 0;
        for (int thread = 0; thread < 4; thread++) {
            for (int n = 1; n <= 6; n++) {
                steps++;
                Checks.program(x, thread, SIX.substring(0, 2 * n));
                Checks.due("22: save(1)", x.save(1), steps);
                Checks.due("23: restore(1)", x.restore(1), steps);
            }
        }
        Checks.due("23: restore(0) without steps", x.restore(0), 0);
        Checks.due("23: restore(1)", x.restore(1), 24);
    }

    /** "BAD_VALUE if there is no such slot", before NOT_POSSIBLE. */
    private static void promise23Slot() {
        for (boolean isSaved : new boolean[] {false, true}) {
            SleepSteps x = Checks.with("r0r1");
            for (int slot = 0; slot < 2 && isSaved; slot++) {
                x.save(slot);
            }
            for (int slot : new int[] {-2, -1, 2, 3, LEAST, MOST}) {
                Checks.due("23: restore(" + slot + ")", x.restore(slot), BAD_VALUE);
            }
            Checks.due("23: restore(0)", x.restore(0), isSaved ? 2 : NOT_POSSIBLE);
            Checks.due("23: restore(1)", x.restore(1), isSaved ? 2 : NOT_POSSIBLE);
        }
    }

    /** "NOT_POSSIBLE if nothing was saved in it", whatever was saved in the other one. */
    private static void promise23NothingSaved() {
        for (int slot = 0; slot < 2; slot++) {
            SleepSteps x = Checks.with("r0r1");
            Checks.due("23: restore of nothing", x.restore(slot), NOT_POSSIBLE);
            x.save(1 - slot);
            Checks.due("23: restore of nothing still", x.restore(slot), NOT_POSSIBLE);
            x.undo();
            Checks.due("23: restore of nothing still", x.restore(slot), NOT_POSSIBLE);
            Checks.due("23: restore of the other one", x.restore(1 - slot), 2);
            // What is saved is there, also if it is empty.
            SleepSteps y = new SleepSteps();
            y.save(slot);
            Checks.due("23: restore of an empty state", y.restore(slot), 0);
        }
    }

    /** "Restores what was saved last in a slot, which keeps it": as often as it is asked, whatever comes between. */
    private static void promise23SlotKeepsIt() {
        SleepSteps x = Checks.with("r0w1", "w1r0");
        Checks.keep(x, "100");
        x.save(0);
        for (int i = 0; i < 4; i++) {
            Checks.program(x, i, "w3w3");
            Checks.keep(x, "" + i);
            Checks.due("23: restore(0)", x.restore(0), 4);
            Checks.dueText("23: programs", Checks.programs(x), "r0w1,w1r0,,");
            Checks.dueText("23: the kept run", Checks.least(x), "010");
            x.exchange(0, 0);
            x.undo();
            x.undo();
        }
        Checks.due("23: restore(0)", x.restore(0), 4);
        Checks.due("23: restore(0) again", x.restore(0), 4);
    }

    /** "This is a change": with five states and with six in the history. */
    private static void promise23RestoreIsAChange() {
        for (int changes = 0; changes <= 7; changes++) {
            SleepSteps x = new SleepSteps();
            x.save(1);
            for (int i = 0; i < changes; i++) {
                Checks.program(x, 0, "r0r1");
            }
            Checks.put(x, "pad");
            Checks.due("23: restore(1)", x.restore(1), 0);
            Checks.due("23: count(6)", x.count(6), Math.min(changes + 1, 6));
            Checks.due("23: the pad stays", x.count(5), 3);
            dueUndo(x, Math.min(changes, 5));
            Checks.due("23: count(0)", x.count(0), changes == 0 ? 0 : 2);
        }
    }

    /** "An object is used for at most 512 calls": the last ones are answered as well as the first. */
    private static void lastOf512Calls() {
        SleepSteps x = new SleepSteps();
        for (int i = 0; i < 124; i++) {
            x.put(Checks.pack("l0w0u0"));
            Checks.due("512: program", x.program(i % 4), 3);
            Checks.due("512: stands(2)", x.stands(2), 0);
            Checks.due("512: without(0)", x.without(0), 0);
        }
        Checks.due("512: runs(0)", x.runs(0), 24);
        Checks.due("512: sleeping(0)", x.sleeping(0), 24);
        Checks.due("512: put", x.put(Checks.pack("000111")), 6);
        Checks.due("512: put", x.put(Checks.pack("222333")), 12);
        Checks.due("512: keep", x.keep(), 12);
        Checks.due("512: chain", x.chain(), 12);
        Checks.due("512: alikeRuns", x.alikeRuns(), 1);
        Checks.due("512: least", x.least(11), 3);
        Checks.due("512: save", x.save(1), 12);
        Checks.due("512: restore", x.restore(1), 12);
        Checks.due("512: count(6)", x.count(6), 6);
        for (int i = 5; i >= 1; i--) {
            Checks.due("512: undo", x.undo(), i);
        }
    }
}
