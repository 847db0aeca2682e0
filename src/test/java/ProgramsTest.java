/** Promises 5 to 9: program, exchange, keep, ofStep, count. */
public final class ProgramsTest {
    public static void main(String[] args) {
        promise5();
        promise5Errors();
        promise6();
        promise6Errors();
        promise7();
        promise7Errors();
        promise8();
        promise9();
        Checks.finish();
    }

    private static void promise5() {
        SleepSteps x = new SleepSteps();
        Checks.due("5: program(0)", Checks.program(x, 0, "r0w1"), 2);
        Checks.due("5: the pad is emptied", x.count(5), 0);
        Checks.due("5: it is a change", x.count(6), 1);
        Checks.due("5: program(3)", Checks.program(x, 3, "l0l1u0u1l0u0"), 6);
        Checks.due("5: program(2) ends with a lock", Checks.program(x, 2, "l3"), 1);
        Checks.dueText("5: programs", Checks.programs(x), "r0w1,,l3,l0l1u0u1l0u0");
        Checks.due("5: the kept run", Checks.keep(x, "0332"), 4);
        Checks.due("5: program(1)", Checks.program(x, 1, "r2"), 1);
        Checks.due("5: the kept run becomes empty", x.count(7), 0);
        Checks.due("5: a shorter program", Checks.program(x, 3, "l0"), 1);
        Checks.dueText("5: programs", Checks.programs(x), "r0w1,r2,l3,l0");
        Checks.due("5: an empty program", Checks.program(x, 0, ""), 0);
        Checks.dueText("5: programs", Checks.programs(x), ",r2,l3,l0");
        Checks.due("5: changes", x.count(6), 6);
        SleepSteps y = Checks.with("l0r0u0", "l0r1u0");
        y.without(0);
        Checks.program(y, 2, "r2");
        Checks.dueText("5: the others' programs stay", Checks.programs(y), "l0r0u0,l0r1u0,r2,");
        y.undo();
        Checks.program(y, 3, "r3");
        Checks.dueText("5: the others' programs stay", Checks.programs(y), "l0r0u0,l0r1u0,,r3");
    }

    private static void promise5Errors() {
        SleepSteps x = Checks.with("w0", "r0");
        Checks.keep(x, "01");
        Checks.write(x, "w9");
        for (int thread : new int[] {-1, 4, Integer.MIN_VALUE, Integer.MAX_VALUE}) {
            Checks.due("5: NO_SUCH before BAD_TEXT", x.program(thread), SleepSteps.NO_SUCH);
        }
        Checks.due("5: BAD_TEXT", x.program(0), SleepSteps.BAD_TEXT);
        Checks.due("5: BAD_TEXT before NOT_POSSIBLE", Checks.program(x, 0, "u0x"), SleepSteps.BAD_TEXT);
        Checks.due("5: BAD_TEXT of half a step", Checks.program(x, 0, "w0r"), SleepSteps.BAD_TEXT);
        Checks.due("5: BAD_TEXT of seven steps", Checks.program(x, 0, "r0r0r0r0r0r0r0"), SleepSteps.BAD_TEXT);
        String[] notWell = {"u0", "l0u1", "l0u0u0", "l0l0", "l0l1l0", "r0u0", "l1u1l1l1", "l0l1u0u0", "l0r0r0r0r0u3"};
        for (String text : notWell) {
            Checks.due("5: NOT_POSSIBLE of " + text, Checks.program(x, 0, text), SleepSteps.NOT_POSSIBLE);
            Checks.due("5: the pad stays", x.count(5), text.length());
        }
        Checks.dueText("5: an error changes nothing", Checks.programs(x), "w0,r0,,");
        Checks.due("5: the kept run stays", x.count(7), 2);
        Checks.due("5: an error is no change", x.count(6), 3);
        // A program is well by itself, whatever the others lock.
        Checks.due("5: l0l1u1u0l0u0", Checks.program(x, 0, "l0l1u1u0l0u0"), 6);
        Checks.due("5: l0l1u1u0l0u0 again", Checks.program(x, 1, "l0l1u1u0l0u0"), 6);
    }

    private static void promise6() {
        SleepSteps x = Checks.with("r0w1w1", "l0l1u1u0", "", "r0r1r2r3w0w1");
        Checks.keep(x, "0");
        Checks.due("6: exchange(0, 0)", x.exchange(0, 0), 1);
        Checks.dueText("6: programs", Checks.programs(x), "w1r0w1,l0l1u1u0,,r0r1r2r3w0w1");
        Checks.due("6: the kept run becomes empty", x.count(7), 0);
        Checks.due("6: it is a change", x.count(6), 6);
        Checks.due("6: exchange(0, 0) back", x.exchange(0, 0), 1);
        Checks.keep(x, "0");
        Checks.due("6: exchange of steps that are alike", x.exchange(0, 1), 0);
        Checks.due("6: the kept run becomes empty then, too", x.count(7), 0);
        Checks.dueText("6: programs", Checks.programs(x), "r0w1w1,l0l1u1u0,,r0r1r2r3w0w1");
        Checks.due("6: exchange(1, 0)", x.exchange(1, 0), 1);
        Checks.due("6: exchange(1, 2)", x.exchange(1, 2), 1);
        Checks.due("6: exchange(3, 4), the last two", x.exchange(3, 4), 1);
        Checks.dueText("6: programs", Checks.programs(x), "r0w1w1,l1l0u0u1,,r0r1r2r3w1w0");
        SleepSteps y = Checks.with("r0");
        Checks.keep(y, "0");
        Checks.program(y, 1, "r3r3");
        Checks.due("6: count(6)", y.count(6), 3);
        Checks.due("6: exchange of steps that are alike", y.exchange(1, 0), 0);
        Checks.due("6: it is a change, too", y.count(6), 4);
        SleepSteps z = Checks.with("r0w0");
        Checks.due("6: same variable, other kind", z.exchange(0, 0), 1);
        Checks.dueText("6: programs", Checks.programs(z), "w0r0,,,");
    }

    private static void promise6Errors() {
        SleepSteps x = Checks.with("l0w0u0l0u0", "r0", "", "r0r0r0r0r0r1");
        Checks.keep(x, "01");
        int[][] noSuch = {
            {-1, 0}, {4, 0}, {Integer.MAX_VALUE, 0}, {Integer.MIN_VALUE, 0}, {0, -1}, {0, 4}, {0, 5}, {1, 0}, {2, 0},
            {2, -1}, {3, 5}, {3, 6}, {0, Integer.MAX_VALUE}, {0, Integer.MIN_VALUE}, {0, Integer.MAX_VALUE - 1},
        };
        for (int[] at : noSuch) {
            Checks.due("6: exchange(" + at[0] + ", " + at[1] + ")", x.exchange(at[0], at[1]), SleepSteps.NO_SUCH);
        }
        Checks.due("6: unlock before lock", x.exchange(0, 3), SleepSteps.NOT_POSSIBLE);
        Checks.due("6: lock what it holds", x.exchange(0, 2), SleepSteps.NOT_POSSIBLE);
        Checks.dueText("6: an error changes nothing", Checks.programs(x), "l0w0u0l0u0,r0,,r0r0r0r0r0r1");
        Checks.due("6: the kept run stays", x.count(7), 2);
        Checks.due("6: an error is no change", x.count(6), 5);
        Checks.due("6: exchange(0, 0)", x.exchange(0, 0), 1);
        Checks.due("6: unlock before lock again", x.exchange(0, 1), SleepSteps.NOT_POSSIBLE);
    }

    private static void promise7() {
        SleepSteps x = Checks.with("l0w0u0", "l0r0u0", "r0");
        Checks.due("7: keep()", Checks.keep(x, "00201"), 5);
        Checks.due("7: the pad is emptied", x.count(5), 0);
        Checks.due("7: count(7)", x.count(7), 5);
        Checks.due("7: it is a change", x.count(6), 4);
        Checks.due("7: a run need not be whole", Checks.keep(x, "2"), 1);
        Checks.due("7: a whole run", Checks.keep(x, "0001112"), 7);
        Checks.due("7: the empty run", Checks.keep(x, ""), 0);
        Checks.due("7: count(7)", x.count(7), 0);
        Checks.due("7: the empty run is a change", x.count(6), 6);
        SleepSteps y = Checks.with("r0r1r2r3w0w1", "w0w1w2w3r0r1", "l0u0l1u1l2u2", "w3w2w1w0r3r2");
        Checks.due("7: the longest run", Checks.keep(y, "012301230123012301230123"), 24);
        Checks.due("7: count(7)", y.count(7), 24);
        Checks.due("7: another longest run", Checks.keep(y, "333333222222111111000000"), 24);
        // A lock that was unlocked can be locked by another thread, and again.
        SleepSteps z = Checks.with("l0u0l0", "l0u0");
        Checks.due("7: a lock goes round", Checks.keep(z, "00110"), 5);
        Checks.due("7: a lock is held", Checks.keep(z, "000"), 3);
        Checks.due("7: a lock stays held", Checks.keep(z, "0001"), SleepSteps.NOT_POSSIBLE);
    }

    private static void promise7Errors() {
        SleepSteps x = Checks.with("l0w0u0", "l0r0u0", "r0");
        Checks.keep(x, "2");
        Checks.due("7: BAD_TEXT", Checks.keep(x, "2x"), SleepSteps.BAD_TEXT);
        Checks.due("7: BAD_TEXT before NOT_POSSIBLE", Checks.keep(x, "3334"), SleepSteps.BAD_TEXT);
        Checks.due("7: BAD_TEXT of 25 steps", Checks.keep(x, "0000000000000000000000000"), SleepSteps.BAD_TEXT);
        Checks.due("7: the pad stays", x.count(5), 25);
        String[] notPossible = {"3", "01", "001", "0000", "22", "1110001", "0001111", "20010"};
        for (String text : notPossible) {
            Checks.due("7: NOT_POSSIBLE of " + text, Checks.keep(x, text), SleepSteps.NOT_POSSIBLE);
            Checks.due("7: the pad stays", x.count(5), text.length());
        }
        Checks.due("7: the kept run stays", x.count(7), 1);
        Checks.due("7: an error is no change", x.count(6), 4);
    }

    private static void promise8() {
        SleepSteps x = Checks.with("r0w0l0u0", "w0r0", "l0w1u0r1", "r1l3u3r0r0r2");
        int[][] due = {
            // thread, step, kind, name, steps of other threads that do not commute with it
            {0, 0, SleepSteps.READ, 0, 1}, {0, 1, SleepSteps.WRITE, 0, 4}, {0, 2, SleepSteps.LOCK, 0, 2},
            {0, 3, SleepSteps.UNLOCK, 0, 2}, {1, 0, SleepSteps.WRITE, 0, 4}, {1, 1, SleepSteps.READ, 0, 1},
            {2, 0, SleepSteps.LOCK, 0, 2}, {2, 1, SleepSteps.WRITE, 1, 1}, {2, 2, SleepSteps.UNLOCK, 0, 2},
            {2, 3, SleepSteps.READ, 1, 0}, {3, 0, SleepSteps.READ, 1, 1}, {3, 1, SleepSteps.LOCK, 3, 0},
            {3, 2, SleepSteps.UNLOCK, 3, 0}, {3, 3, SleepSteps.READ, 0, 2}, {3, 4, SleepSteps.READ, 0, 2},
            {3, 5, SleepSteps.READ, 2, 0},
        };
        for (int[] row : due) {
            for (int what = 0; what < 3; what++) {
                String call = "8: ofStep(" + row[0] + ", " + row[1] + ", " + what + ")";
                Checks.due(call, x.ofStep(row[0], row[1], what), row[2 + what]);
            }
        }
        int[][] noSuch = {
            {-1, 0, 0}, {4, 0, 0}, {Integer.MIN_VALUE, 0, 0}, {Integer.MAX_VALUE, 0, 0}, {0, -1, 0}, {0, 4, 0},
            {1, 2, 0}, {1, 5, 1}, {3, 6, 0}, {3, Integer.MAX_VALUE, 0}, {0, Integer.MIN_VALUE, 2}, {4, 0, 3}, {0, 4, -1},
        };
        for (int[] at : noSuch) {
            Checks.due("8: NO_SUCH", x.ofStep(at[0], at[1], at[2]), SleepSteps.NO_SUCH);
        }
        for (int what : new int[] {-1, 3, 4, Integer.MIN_VALUE, Integer.MAX_VALUE}) {
            Checks.due("8: ofStep(0, 0, " + what + ")", x.ofStep(0, 0, what), SleepSteps.BAD_VALUE);
        }
    }

    private static void promise9() {
        SleepSteps x = Checks.with("r0w0l0u0", "w0r0", "l0w1u0r1", "r1l3u3r0r0r2");
        Checks.keep(x, "012");
        Checks.put(x, "whatever!");
        int[] due = {4, 2, 4, 6, 16, 9, 5, 3, 12};
        for (int what = 0; what < due.length; what++) {
            Checks.due("9: count(" + what + ")", x.count(what), due[what]);
        }
        for (int what : new int[] {-1, 9, 10, Integer.MIN_VALUE, Integer.MAX_VALUE}) {
            Checks.due("9: count(" + what + ")", x.count(what), SleepSteps.BAD_VALUE);
        }
        SleepSteps most = Checks.with("w0w0w0w0w0w0", "w0w0w0w0w0w0", "w0w0w0w0w0w0", "w0w0w0w0w0w0");
        Checks.due("9: the most steps", most.count(4), 24);
        Checks.due("9: the most pairs", most.count(8), 216);
        Checks.due("8: the most steps that do not commute", most.ofStep(2, 5, 2), 18);
        SleepSteps reads = Checks.with("r0r0", "r0r0", "r0", "r0");
        Checks.due("9: reads commute", reads.count(8), 0);
        SleepSteps locks = Checks.with("l0u0", "l0u0", "l1u1", "r0w1");
        Checks.due("9: all steps of one lock do not commute", locks.count(8), 4);
    }
}
