/** Promises 16 to 20: least, alike, chain, lastWrite, alikeRuns. */
public final class RunsTest {
    public static void main(String[] args) {
        promise16();
        promise17();
        promise17Errors();
        promise18();
        promise19();
        promise20();
        longestRuns();
        Checks.finish();
    }

    private static void dueLeast(SleepSteps x, String run, String least) {
        Checks.keep(x, run);
        Checks.due("16: the run is kept", x.count(7), run.length());
        Checks.dueText("16: least of " + run, Checks.least(x), least);
        Checks.due("16: behind it", x.least(run.length()), SleepSteps.NONE);
        Checks.due("16: far behind it", x.least(Integer.MAX_VALUE), SleepSteps.NONE);
        Checks.due("16: least(-1)", x.least(-1), SleepSteps.BAD_VALUE);
        Checks.due("16: least(least)", x.least(Integer.MIN_VALUE), SleepSteps.BAD_VALUE);
    }

    private static void promise16() {
        dueLeast(new SleepSteps(), "", "");
        dueLeast(Checks.with("r0", "r1", "r2"), "210", "012");
        dueLeast(Checks.with("r0", "r0", "r0"), "210", "012");
        dueLeast(Checks.with("w0", "r0", "r0"), "210", "120");
        dueLeast(Checks.with("r0", "w0"), "10", "10");
        dueLeast(Checks.with("w0", "w0"), "10", "10");
        dueLeast(Checks.with("r1", "w0"), "10", "01");
        dueLeast(Checks.with("l1", "w1"), "10", "01");
        dueLeast(Checks.with("l1", "l0"), "10", "01");
        dueLeast(Checks.with("l0u0", "l0u0"), "1100", "1100");
        dueLeast(Checks.with("w0", "w0r1", "w1"), "2110", "1021");
        dueLeast(Checks.with("r3r3", "r3r3", "r3r3", "r3r3"), "33221100", "00112233");
        SleepSteps x = Checks.with("r0r0", "r0r0");
        dueLeast(x, "1010", "0011");
        dueLeast(x, "11", "11");
        dueLeast(x, "10", "01");
        // Not whole: what is not in the run does not count.
        dueLeast(Checks.with("r0w1", "w1r0"), "10", "01");
    }

    private static void dueAlike(SleepSteps x, String run, int due) {
        Checks.due("17: alike() of " + run, Checks.alike(x, run), due);
        Checks.due("17: the pad stays", x.count(5), run.length());
    }

    private static void promise17() {
        SleepSteps x = Checks.with("w0", "w0r1", "w1");
        Checks.keep(x, "2110");
        String[] alike = {"2110", "1021", "1201", "1210", "2101"};
        String[] not = {"", "2", "211", "0112", "2011", "1102", "1120", "1012", "0211", "110"};
        for (String run : alike) {
            dueAlike(x, run, 1);
        }
        for (String run : not) {
            dueAlike(x, run, 0);
        }
        Checks.due("17: it is no change", x.count(6), 4);
        Checks.due("17: the kept run stays", x.count(7), 4);
        Checks.keep(x, "");
        dueAlike(x, "", 1);
        dueAlike(x, "0", 0);
        Checks.keep(x, "0");
        dueAlike(x, "2", 0);
        dueAlike(x, "0", 1);
        SleepSteps reads = Checks.with("r0r0", "r0r0");
        Checks.keep(reads, "0011");
        dueAlike(reads, "1100", 1);
        dueAlike(reads, "1010", 1);
        dueAlike(reads, "100", 0);
    }

    private static void promise17Errors() {
        SleepSteps x = Checks.with("l0u0", "l0u0", "r0");
        Checks.keep(x, "0011");
        // A thread cannot go where it is its turn: the lock is held, or it has no more steps.
        String[] not = {"0101", "01", "000", "3", "00110", "1100", "2222"};
        for (String run : not) {
            dueAlike(x, run, 0);
        }
        String[] bad = {"4", "001x", "r0", "0011001100110011001100110", "3333333333333333333333334"};
        for (String run : bad) {
            dueAlike(x, run, SleepSteps.BAD_TEXT);
        }
        Checks.due("17: the kept run stays", x.count(7), 4);
        x.without(0);
        dueAlike(x, "0101", 0);
        dueAlike(x, "0011", 1);
        x.stands(0);
        Checks.program(x, 0, "r3");
        dueAlike(x, "00", 0);
        dueAlike(x, "", 1);
    }

    private static void dueChain(SleepSteps x, String run, int due) {
        Checks.keep(x, run);
        Checks.due("18: chain() of " + run, x.chain(), due);
    }

    private static void promise18() {
        dueChain(new SleepSteps(), "", 0);
        dueChain(Checks.with("r0", "r0", "r0", "r0"), "0123", 1);
        dueChain(Checks.with("r0", "w0", "r0", "r0"), "0123", 3);
        dueChain(Checks.with("r0", "w0", "r0", "r0"), "0231", 2);
        dueChain(Checks.with("r0r1r2", "r3"), "0100", 3);
        dueChain(Checks.with("w0r1", "r0w1"), "0101", 3);
        dueChain(Checks.with("w0", "w0r1", "w1"), "2110", 2);
        dueChain(Checks.with("l0u0", "l0u0", "l0u0"), "220011", 6);
        dueChain(Checks.with("l0u0", "l1u1", "w0w1"), "220011", 2);
        // From thread to thread: w0, r0, w1 of 1, r1, w2 of 2, r2.
        dueChain(Checks.with("w0", "r0w1", "r1w2", "r2"), "011223", 6);
        dueChain(Checks.with("w0", "r0w1", "r1w2", "r2"), "322110", 2);
    }

    private static void dueWrite(SleepSteps x, int variable, int thread, int step) {
        Checks.due("19: lastWrite(" + variable + ", 0)", x.lastWrite(variable, 0), thread);
        Checks.due("19: lastWrite(" + variable + ", 1)", x.lastWrite(variable, 1), step);
    }

    private static void promise19() {
        int none = SleepSteps.NONE;
        SleepSteps x = Checks.with("w0w1w0", "l3w0r1u3", "r2w3", "w2");
        Checks.keep(x, "0101");
        dueWrite(x, 0, 1, 1);
        dueWrite(x, 1, 0, 1);
        dueWrite(x, 2, none, none);
        dueWrite(x, 3, none, none);
        Checks.keep(x, "1111000322");
        dueWrite(x, 0, 0, 2);
        dueWrite(x, 1, 0, 1);
        dueWrite(x, 2, 3, 0);
        dueWrite(x, 3, 2, 1);
        Checks.keep(x, "0");
        dueWrite(x, 0, 0, 0);
        Checks.keep(x, "");
        dueWrite(x, 0, none, none);
        for (int variable : new int[] {-1, 4, Integer.MIN_VALUE, Integer.MAX_VALUE}) {
            Checks.due("19: lastWrite(" + variable + ", 0)", x.lastWrite(variable, 0), SleepSteps.NO_SUCH);
            Checks.due("19: NO_SUCH before BAD_VALUE", x.lastWrite(variable, 2), SleepSteps.NO_SUCH);
        }
        for (int what : new int[] {-1, 2, Integer.MIN_VALUE, Integer.MAX_VALUE}) {
            Checks.due("19: BAD_VALUE before NONE", x.lastWrite(0, what), SleepSteps.BAD_VALUE);
        }
    }

    private static void dueAlikeRuns(SleepSteps x, String run, long due) {
        Checks.keep(x, run);
        Checks.due("20: alikeRuns() of " + run, x.alikeRuns(), due);
    }

    private static void promise20() {
        dueAlikeRuns(new SleepSteps(), "", 1);
        dueAlikeRuns(Checks.with("r0", "r0", "r0", "r0"), "3210", 24);
        dueAlikeRuns(Checks.with("r0", "r0", "r0", "r0"), "32", 2);
        dueAlikeRuns(Checks.with("w0", "w0", "w0", "w0"), "3210", 1);
        dueAlikeRuns(Checks.with("w0r1", "r0w1"), "0101", 2);
        dueAlikeRuns(Checks.with("w0", "w0r1", "w1"), "2110", 5);
        dueAlikeRuns(Checks.with("l0u0", "l0u0"), "0011", 1);
        dueAlikeRuns(Checks.with("l0u0", "l1u1"), "0011", 6);
        SleepSteps x = Checks.with("r0r0", "r1r1", "w2");
        dueAlikeRuns(x, "00112", 30);
        Checks.due("20: alikeRuns() again", x.alikeRuns(), 30);
        dueAlikeRuns(x, "00", 1);
        dueAlikeRuns(x, "2001", 12);
    }

    /** The longest run, of six steps in each of four threads. */
    private static void longestRuns() {
        String run = "321032103210321032103210";
        String writes = "w0w0w0w0w0w0";
        SleepSteps x = Checks.with(writes, writes, writes, writes);
        dueLeast(x, run, run);
        dueAlikeRuns(x, run, 1);
        dueChain(x, run, 24);
        dueWrite(x, 0, 0, 5);
        dueAlike(x, run, 1);
        dueAlike(x, "321032103210321032103201", 0);
        SleepSteps y = Checks.with("r0r0r0r0r0r0", "r0r0r0r0r0r0", "r0r0r0r0r0r0", "r0r0r0r0r0r0");
        dueLeast(y, run, "000000111111222222333333");
        dueAlikeRuns(y, run, 2308743493056L);
        dueChain(y, run, 6);
        dueAlike(y, "012301230123012301230123", 1);
        dueAlike(y, "01230123012301230123012", 0);
    }
}
