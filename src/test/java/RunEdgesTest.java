/** The edges that promises 16 to 20 name: a test for each sentence, with the value at the edge and its neighbours. */
public final class RunEdgesTest {
    private static final int NO_SUCH = SleepSteps.NO_SUCH;
    private static final int BAD_VALUE = SleepSteps.BAD_VALUE;
    private static final int NONE = SleepSteps.NONE;
    private static final int LEAST = Integer.MIN_VALUE;
    private static final int MOST = Integer.MAX_VALUE;
    private static final String WRITES = "w0w0w0w0w0w0";
    private static final String READS = "r0r0r0r0r0r0";
    private static final String DOWN = "321032103210321032103210";

    public static void main(String[] args) {
        promise16Place();
        promise16EmptyRun();
        promise16LeastOfAll();
        promise17BadText();
        promise17CannotGo();
        promise17OtherLengths();
        promise17OtherThreads();
        promise17AfterOtherQuestions();
        promise17PadAndKeptRunStay();
        promise18FewestAndMost();
        promise18DoesNotCommuteOrSameThread();
        promise18InTheOrderOfTheRun();
        promise19Variable();
        promise19What();
        promise19NobodyWroteIt();
        promise19FirstAndLastStep();
        promise20WithItself();
        promise20Most();
        Checks.finish();
    }

    private static SleepSteps all(String program) {
        return Checks.with(program, program, program, program);
    }

    /** "0 and on", "BAD_VALUE if place is below 0; NONE if the run has no such step": runs of each length. */
    private static void promise16Place() {
        for (int n = 0; n <= 24; n++) {
            SleepSteps x = all(WRITES);
            Checks.keep(x, DOWN.substring(0, n));
            for (int place : new int[] {-1, -2, NONE, LEAST}) {
                Checks.due("16: least(" + place + ") of " + n, x.least(place), BAD_VALUE);
            }
            for (int place = 0; place < n; place++) {
                Checks.due("16: least(" + place + ") of " + n, x.least(place), DOWN.charAt(place) - '0');
            }
            for (int place : new int[] {n, n + 1, 24, 25, MOST}) {
                Checks.due("16: least(" + place + ") of " + n, x.least(place), NONE);
            }
        }
    }

    /** "The empty one at first", and after each change of a program. */
    private static void promise16EmptyRun() {
        SleepSteps fresh = new SleepSteps();
        SleepSteps changed = Checks.with("r0r1", "r0");
        Checks.keep(changed, "10");
        Checks.program(changed, 2, "r0");
        SleepSteps exchanged = Checks.with("r0r1", "r0");
        Checks.keep(exchanged, "10");
        exchanged.exchange(0, 0);
        for (SleepSteps x : new SleepSteps[] {fresh, changed, exchanged}) {
            Checks.due("16: least(0)", x.least(0), NONE);
            Checks.due("16: least(-1)", x.least(-1), BAD_VALUE);
            Checks.due("18: chain()", x.chain(), 0);
            Checks.due("20: alikeRuns()", x.alikeRuns(), 1);
            Checks.due("19: lastWrite(0, 0)", x.lastWrite(0, 0), NONE);
            x.wipe();
            Checks.due("17: alike()", x.alike(), 1);
        }
    }

    /** "Exchanging neighbours whose steps commute, again and again." */
    private static void promise16LeastOfAll() {
        SleepSteps reads = all(READS);
        Checks.keep(reads, DOWN);
        Checks.dueText("16: all commute", Checks.least(reads), "000000111111222222333333");
        SleepSteps writes = all(WRITES);
        Checks.keep(writes, DOWN);
        Checks.dueText("16: none commutes", Checks.least(writes), DOWN);
        SleepSteps one = Checks.with("r0", "r1", "r2", "w0");
        Checks.keep(one, "3210");
        Checks.dueText("16: 0 has to stay behind 3", Checks.least(one), "1230");
        SleepSteps other = Checks.with("r1", "r1", "r2", "w0");
        Checks.keep(other, "3210");
        Checks.dueText("16: 0 can go first", Checks.least(other), "0123");
    }

    private static void dueAlike(SleepSteps x, String run, int due) {
        Checks.due("17: alike() of " + run, Checks.alike(x, run), due);
    }

    /** "BAD_TEXT if the pad has a fault as a run": before it matters whether the threads can go. */
    private static void promise17BadText() {
        SleepSteps x = all(READS);
        Checks.keep(x, DOWN);
        dueAlike(x, DOWN, 1);
        dueAlike(x, DOWN + "0", SleepSteps.BAD_TEXT);
        dueAlike(x, DOWN + "x", SleepSteps.BAD_TEXT);
        for (int place = 0; place < 24; place++) {
            for (char wrong : new char[] {'/', '4'}) {
                dueAlike(x, DOWN.substring(0, place) + wrong + DOWN.substring(place + 1), SleepSteps.BAD_TEXT);
            }
        }
        SleepSteps none = new SleepSteps();
        dueAlike(none, "0x", SleepSteps.BAD_TEXT);
        dueAlike(none, "000000000000000000000000", 0);
        dueAlike(none, "0000000000000000000000000", SleepSteps.BAD_TEXT);
    }

    /** "0, too, if a thread cannot go where it is its turn." */
    private static void promise17CannotGo() {
        SleepSteps x = Checks.with("l0u0", "l0u0", "r0");
        Checks.keep(x, "00211");
        dueAlike(x, "00112", 1);
        dueAlike(x, "20011", 1);
        dueAlike(x, "11002", 0);
        dueAlike(x, "01012", 0);
        dueAlike(x, "0011", 0);
        dueAlike(x, "00113", 0);
        dueAlike(x, "00122", 0);
        dueAlike(x, "001122", 0);
        Checks.keep(x, "");
        for (String run : new String[] {"3", "22", "01"}) {
            dueAlike(x, run, 0);
        }
    }

    /** A run is never alike to one of another length, the empty one to itself alone. */
    private static void promise17OtherLengths() {
        SleepSteps x = all(READS);
        for (int n = 0; n <= 24; n++) {
            Checks.keep(x, DOWN.substring(0, n));
            dueAlike(x, DOWN.substring(0, n), 1);
            if (n > 0) {
                dueAlike(x, DOWN.substring(0, n - 1), 0);
            }
            if (n < 24) {
                dueAlike(x, DOWN.substring(0, n + 1), 0);
            }
        }
    }

    /** The same length, and other threads: at the first place alone, and at the last alone. */
    private static void promise17OtherThreads() {
        SleepSteps x = all(READS);
        for (int kept = 0; kept < 4; kept++) {
            for (int other = 0; other < 4; other++) {
                int due = kept == other ? 1 : 0;
                Checks.keep(x, "" + kept);
                dueAlike(x, "" + other, due);
                Checks.keep(x, kept + "333");
                dueAlike(x, other + "333", due);
                Checks.keep(x, "000" + kept);
                dueAlike(x, "000" + other, due);
            }
        }
    }

    /** Whether a thread can go is told by the programs that are there, whatever was asked in between. */
    private static void promise17AfterOtherQuestions() {
        SleepSteps x = Checks.with("l0u0r1", "l0u0");
        Checks.keep(x, "00110");
        x.without(0);
        dueAlike(x, "00011", 1);
        x.without(0);
        dueAlike(x, "01010", 0);
        x.save(0);
        Checks.program(x, 0, "l0");
        Checks.due("17: stands(2) of other programs", x.stands(2), 1);
        x.undo();
        dueAlike(x, "00110", 1);
        Checks.program(x, 0, "w3");
        Checks.due("17: stands(2) of other programs", x.stands(2), 0);
        x.restore(0);
        dueAlike(x, "00011", 1);
    }

    /** It is not said to empty the pad, nor to be a change. */
    private static void promise17PadAndKeptRunStay() {
        for (String run : new String[] {"", "1", "01", "10", "11", "3", "x"}) {
            SleepSteps x = Checks.with("r0", "r0");
            Checks.keep(x, "10");
            Checks.alike(x, run);
            Checks.due("17: count(5)", x.count(5), run.length());
            Checks.due("17: count(6)", x.count(6), 3);
            Checks.due("17: count(7)", x.count(7), 2);
            dueAlike(x, "01", 1);
        }
    }

    private static void dueChain(SleepSteps x, String run, int due) {
        Checks.keep(x, run);
        Checks.due("18: chain() of " + run, x.chain(), due);
    }

    /** No step, one step, and all of 24. */
    private static void promise18FewestAndMost() {
        SleepSteps x = all(WRITES);
        for (int n = 0; n <= 24; n++) {
            dueChain(x, DOWN.substring(0, n), n);
        }
        SleepSteps y = all(READS);
        for (int n = 0; n <= 24; n++) {
            dueChain(y, DOWN.substring(0, n), (n + 3) / 4);
        }
    }

    /** "Each one does not commute with the next one of the chain, or is of the same thread." */
    private static void promise18DoesNotCommuteOrSameThread() {
        dueChain(Checks.with("r0", "r0"), "01", 1);
        dueChain(Checks.with("r0", "w0"), "01", 2);
        dueChain(Checks.with("w0", "w1"), "01", 1);
        dueChain(Checks.with("l0", "w0"), "01", 1);
        dueChain(Checks.with("l0", "l1"), "01", 1);
        dueChain(Checks.with("l0u0", "l0"), "001", 3);
        dueChain(Checks.with("r0w1"), "00", 2);
        // By way of its own thread and by way of a variable in turn.
        dueChain(Checks.with("r3w0", "r0w1", "r1"), "00112", 5);
        dueChain(Checks.with("r3w0", "r2w1", "r1"), "00112", 3);
    }

    /** "In the order of the run": what does not commute counts where it comes later. */
    private static void promise18InTheOrderOfTheRun() {
        SleepSteps x = Checks.with("w0", "r0w1", "r1");
        dueChain(x, "0112", 4);
        dueChain(x, "1012", 3);
        dueChain(x, "2110", 2);
        dueChain(x, "2101", 2);
        dueChain(x, "011", 3);
        dueChain(x, "01", 2);
        dueChain(x, "0", 1);
        dueChain(x, "", 0);
    }

    /** "NO_SUCH if there is no such variable", before BAD_VALUE, before NONE. */
    private static void promise19Variable() {
        SleepSteps x = Checks.with("w0w3", "w1", "w2");
        SleepSteps kept = Checks.with("w0w3", "w1", "w2");
        Checks.keep(kept, "0012");
        int[][] due = {{0, 0}, {1, 0}, {2, 0}, {0, 1}};
        for (int variable = 0; variable < 4; variable++) {
            for (int what = 0; what < 2; what++) {
                String call = "19: lastWrite(" + variable + ", " + what + ")";
                Checks.due(call, x.lastWrite(variable, what), NONE);
                Checks.due(call, kept.lastWrite(variable, what), due[variable][what]);
            }
        }
        for (int variable : new int[] {-2, -1, 4, 5, NONE, LEAST, MOST}) {
            for (int what : new int[] {-1, 0, 1, 2, LEAST, MOST}) {
                String call = "19: lastWrite(" + variable + ", " + what + ")";
                Checks.due(call, x.lastWrite(variable, what), NO_SUCH);
                Checks.due(call, kept.lastWrite(variable, what), NO_SUCH);
            }
        }
    }

    /** "BAD_VALUE if what is neither 0 nor 1", also where nobody wrote it. */
    private static void promise19What() {
        SleepSteps x = Checks.with("w0w3");
        Checks.keep(x, "0");
        for (int variable = 0; variable < 4; variable++) {
            for (int what : new int[] {-2, -1, 2, 3, NONE, LEAST, MOST}) {
                Checks.due("19: lastWrite(" + variable + ", " + what + ")", x.lastWrite(variable, what), BAD_VALUE);
            }
        }
        Checks.due("19: lastWrite(0, 0)", x.lastWrite(0, 0), 0);
        Checks.due("19: lastWrite(0, 1)", x.lastWrite(0, 1), 0);
    }

    /** "NONE if nobody wrote it": read alone, locked alone, or written only behind the run. */
    private static void promise19NobodyWroteIt() {
        SleepSteps x = Checks.with("r0w1", "l2u2", "w3");
        Checks.keep(x, "011");
        for (int variable = 0; variable < 4; variable++) {
            Checks.due("19: lastWrite(" + variable + ", 0)", x.lastWrite(variable, 0), NONE);
            Checks.due("19: lastWrite(" + variable + ", 1)", x.lastWrite(variable, 1), NONE);
        }
        Checks.keep(x, "0110");
        Checks.due("19: the step behind it", x.lastWrite(1, 0), 0);
        Checks.due("19: the step behind it", x.lastWrite(1, 1), 1);
        Checks.keep(x, "2011");
        Checks.due("19: the thread behind it", x.lastWrite(3, 0), 2);
        Checks.due("19: the thread behind it", x.lastWrite(3, 1), 0);
    }

    /** The last one of many: step 0 to step 5, of each thread. */
    private static void promise19FirstAndLastStep() {
        SleepSteps x = all(WRITES);
        for (int n = 1; n <= 24; n++) {
            Checks.keep(x, DOWN.substring(0, n));
            Checks.due("19: lastWrite(0, 0) of " + n, x.lastWrite(0, 0), 3 - (n - 1) % 4);
            Checks.due("19: lastWrite(0, 1) of " + n, x.lastWrite(0, 1), (n - 1) / 4);
        }
    }

    private static void dueAlikeRuns(SleepSteps x, String run, long due) {
        Checks.keep(x, run);
        Checks.due("20: alikeRuns() of " + run, x.alikeRuns(), due);
    }

    /** "With itself": one at least. */
    private static void promise20WithItself() {
        SleepSteps x = Checks.with("r0r0", "r0", "w0");
        dueAlikeRuns(x, "", 1);
        dueAlikeRuns(x, "0", 1);
        dueAlikeRuns(x, "00", 1);
        dueAlikeRuns(x, "01", 2);
        dueAlikeRuns(x, "001", 3);
        dueAlikeRuns(x, "2001", 3);
        dueAlikeRuns(x, "0201", 2);
        dueAlikeRuns(x, "0012", 3);
        dueAlikeRuns(all(WRITES), DOWN, 1);
    }

    /** 24! / (6! 6! 6! 6!), and with a step less a quarter of it. */
    private static void promise20Most() {
        SleepSteps x = all(READS);
        dueAlikeRuns(x, DOWN, 2308743493056L);
        dueAlikeRuns(x, DOWN.substring(0, 23), 2308743493056L / 4);
        dueAlikeRuns(x, "000000111111222222333333", 2308743493056L);
        dueAlikeRuns(x, "000000111111", 924);
        dueAlikeRuns(x, "333333", 1);
    }
}
