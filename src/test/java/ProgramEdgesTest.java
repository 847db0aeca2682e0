import java.util.ArrayList;
import java.util.List;

/** The edges that promises 5 to 9 name: a test for each sentence, with the value at the edge and its neighbours. */
public final class ProgramEdgesTest {
    private static final int NO_SUCH = SleepSteps.NO_SUCH;
    private static final int BAD_VALUE = SleepSteps.BAD_VALUE;
    private static final int BAD_TEXT = SleepSteps.BAD_TEXT;
    private static final int NOT_POSSIBLE = SleepSteps.NOT_POSSIBLE;
    private static final int LEAST = Integer.MIN_VALUE;
    private static final int MOST = Integer.MAX_VALUE;
    /** Six steps that are all different. */
    private static final String SIX = "r0r1r2r3w0w1";

    public static void main(String[] args) {
        promise5Thread();
        promise5UpToSixSteps();
        promise5EmptyText();
        promise5EmptiesPadAndKeptRun();
        promise5BadText();
        promise5Well();
        promise5OrderOfErrors();
        promise6Thread();
        promise6Step();
        promise6DifferentOrAlike();
        promise6KeptRunBecomesEmpty();
        promise6WouldNotBeWell();
        promise7HowManySteps();
        promise7BadText();
        promise7NoNextStep();
        promise7LockHeldByAnother();
        promise7OrderOfErrors();
        promise8ThreadAndStep();
        promise8What();
        promise8WhatCommutes();
        promise8FewestAndMost();
        promise9What();
        promise9FewestAndMost();
        Checks.finish();
    }

    /** "NO_SUCH if there is no such thread." */
    private static void promise5Thread() {
        for (int thread = 0; thread < 4; thread++) {
            SleepSteps x = new SleepSteps();
            Checks.due("5: program(" + thread + ")", Checks.program(x, thread, "w2r1"), 2);
            for (int other = 0; other < 4; other++) {
                Checks.due("5: count(" + other + ")", x.count(other), other == thread ? 2 : 0);
            }
        }
        for (int thread : new int[] {-1, 4, 5, LEAST, MOST}) {
            SleepSteps x = new SleepSteps();
            Checks.due("5: program(" + thread + ")", Checks.program(x, thread, "w2r1"), NO_SUCH);
            Checks.due("5: count(4)", x.count(4), 0);
            Checks.due("5: the pad stays", x.count(5), 4);
        }
    }

    /** "Each has a program of up to 6 steps." */
    private static void promise5UpToSixSteps() {
        for (int n = 0; n <= 6; n++) {
            SleepSteps x = new SleepSteps();
            for (int thread = 0; thread < 4; thread++) {
                String text = SIX.substring(0, 2 * n);
                Checks.due("5: program of " + n, Checks.program(x, thread, text), n);
                Checks.due("5: count(" + thread + ")", x.count(thread), n);
                Checks.due("5: one step more", Checks.program(x, thread, SIX + "r0"), BAD_TEXT);
                Checks.due("5: count(" + thread + ") still", x.count(thread), n);
            }
        }
    }

    /** "The empty text is a program without steps." */
    private static void promise5EmptyText() {
        SleepSteps x = Checks.with(SIX, "r0", "", "w0");
        for (int thread = 0; thread < 4; thread++) {
            Checks.due("5: program(" + thread + ") of nothing", Checks.program(x, thread, ""), 0);
            Checks.due("5: count(" + thread + ")", x.count(thread), 0);
            Checks.due("5: ofStep(" + thread + ", 0, 0)", x.ofStep(thread, 0, 0), NO_SUCH);
        }
        Checks.due("5: stands(0)", x.stands(0), 1);
    }

    /** "And empties the pad; the run that is kept becomes empty. This is a change": the same program, too. */
    private static void promise5EmptiesPadAndKeptRun() {
        String[] programs = {"", "r0", SIX, "l0u0"};
        for (String text : programs) {
            SleepSteps x = Checks.with("w0", text);
            Checks.keep(x, "0");
            Checks.due("5: count(7) before", x.count(7), 1);
            Checks.due("5: the same program", Checks.program(x, 1, text), text.length() / 2);
            Checks.due("5: count(5)", x.count(5), 0);
            Checks.due("5: count(6)", x.count(6), 4);
            Checks.due("5: count(7)", x.count(7), 0);
            Checks.due("5: least(0)", x.least(0), SleepSteps.NONE);
        }
    }

    /** "BAD_TEXT if the pad has a fault as a program": a fault at each place, and each length that is odd. */
    private static void promise5BadText() {
        SleepSteps x = Checks.with("w0");
        for (int place = 0; place < 12; place++) {
            String wrong = SIX.substring(0, place) + "4" + SIX.substring(place + 1);
            Checks.due("5: program of " + wrong, Checks.program(x, 0, wrong), BAD_TEXT);
            String cut = SIX.substring(0, place);
            int due = place % 2 == 0 ? place / 2 : BAD_TEXT;
            Checks.due("5: program of " + cut, Checks.program(x, 0, cut), due);
        }
    }

    /** All programs of so many steps that only lock and unlock locks 0 and 1. */
    private static List<String> lockPrograms(int steps) {
        List<String> programs = new ArrayList<>(List.of(""));
        for (int i = 0; i < steps; i++) {
            List<String> longer = new ArrayList<>();
            for (String program : programs) {
                for (String step : new String[] {"l0", "u0", "l1", "u1"}) {
                    longer.add(program + step);
                }
            }
            programs = longer;
        }
        return programs;
    }

    /** Well: at each place, a lock was locked as often as unlocked, or once more. */
    private static boolean isWell(String program) {
        for (char lock = '0'; lock <= '3'; lock++) {
            int times = 0;
            for (int i = 0; i < program.length(); i += 2) {
                if (program.charAt(i + 1) == lock) {
                    times += program.charAt(i) == 'l' ? 1 : program.charAt(i) == 'u' ? -1 : 0;
                }
                if (times < 0 || times > 1) {
                    return false;
                }
            }
        }
        return true;
    }

    /** "NOT_POSSIBLE if the program is not well": every program of up to four steps over two locks. */
    private static void promise5Well() {
        for (int steps = 0; steps <= 4; steps++) {
            for (String program : lockPrograms(steps)) {
                SleepSteps x = Checks.with("", "l0l1");
                int due = isWell(program) ? steps : NOT_POSSIBLE;
                Checks.due("5: program of " + program, Checks.program(x, 2, program), due);
                Checks.due("5: count(2)", x.count(2), Math.max(due, 0));
                Checks.due("5: count(5)", x.count(5), due < 0 ? 2 * steps : 0);
            }
        }
        SleepSteps y = new SleepSteps();
        Checks.due("5: a lock held to the end", Checks.program(y, 0, "l0l1l2l3"), 4);
        Checks.due("5: the sixth step unlocks", Checks.program(y, 0, "l3r3w3r3w3u3"), 6);
        Checks.due("5: the sixth step unlocks another", Checks.program(y, 0, "l3r3w3r3w3u2"), NOT_POSSIBLE);
        Checks.due("5: the sixth step locks again", Checks.program(y, 0, "l3r3w3r3w3l3"), NOT_POSSIBLE);
        Checks.due("5: the sixth step locks anew", Checks.program(y, 0, "l3r3w3r3u3l3"), 6);
    }

    private static void promise5OrderOfErrors() {
        for (String text : new String[] {"x", "u0x", "l0l0r", "u0u0u0u0u0u0u0", "u0", "l0l0"}) {
            boolean isText = text.length() == 2 || text.equals("l0l0");
            SleepSteps x = new SleepSteps();
            Checks.due("5: program(-1) of " + text, Checks.program(x, -1, text), NO_SUCH);
            Checks.due("5: program(4) of " + text, Checks.program(x, 4, text), NO_SUCH);
            Checks.due("5: program(3) of " + text, Checks.program(x, 3, text), isText ? NOT_POSSIBLE : BAD_TEXT);
        }
    }

    /** "NO_SUCH if there is no such thread." */
    private static void promise6Thread() {
        SleepSteps x = Checks.with(SIX, SIX, SIX, SIX);
        for (int thread = 0; thread < 4; thread++) {
            Checks.due("6: exchange(" + thread + ", 4)", x.exchange(thread, 4), 1);
        }
        Checks.dueText("6: programs", Checks.programs(x), "r0r1r2r3w1w0,r0r1r2r3w1w0,r0r1r2r3w1w0,r0r1r2r3w1w0");
        for (int thread : new int[] {-1, 4, 5, LEAST, MOST}) {
            Checks.due("6: exchange(" + thread + ", 0)", x.exchange(thread, 0), NO_SUCH);
        }
    }

    /** "Or it has no step step + 1, or step is below 0": each step of programs of each length. */
    private static void promise6Step() {
        for (int n = 0; n <= 6; n++) {
            for (int step = -2; step <= 7; step++) {
                SleepSteps x = Checks.with("r0r0r0r0r0r0", SIX.substring(0, 2 * n), "w0w0w0w0w0w0");
                boolean isThere = step >= 0 && step + 1 < n;
                Checks.due("6: exchange(1, " + step + ") of " + n, x.exchange(1, step), isThere ? 1 : NO_SUCH);
                Checks.due("6: count(6)", x.count(6), isThere ? 4 : 3);
            }
            SleepSteps y = Checks.with("", SIX.substring(0, 2 * n));
            for (int step : new int[] {LEAST, LEAST + 1, MOST - 1, MOST}) {
                Checks.due("6: exchange(1, " + step + ")", y.exchange(1, step), NO_SUCH);
            }
        }
    }

    /** "Returns 1 if they are different, 0 if they are alike." */
    private static void promise6DifferentOrAlike() {
        String[][] pairs = {
            {"r0", "r0", "0"}, {"w3", "w3", "0"}, {"r0", "r1", "1"}, {"r0", "w0", "1"}, {"w0", "w3", "1"},
            {"l0", "l1", "1"}, {"l0", "r0", "1"}, {"w2", "l2", "1"},
        };
        for (String[] pair : pairs) {
            SleepSteps x = Checks.with("", "", "", pair[0] + pair[1]);
            Checks.due("6: exchange of " + pair[0] + " and " + pair[1], x.exchange(3, 0), pair[2].charAt(0) - '0');
            Checks.dueText("6: programs", Checks.programs(x), ",,," + pair[1] + pair[0]);
        }
    }

    /** "The run that is kept becomes empty. This is a change": also where the steps are alike. */
    private static void promise6KeptRunBecomesEmpty() {
        for (String program : new String[] {"r0r0", "r0r1"}) {
            SleepSteps x = Checks.with(program, "w1");
            Checks.keep(x, "10");
            Checks.put(x, "r0");
            Checks.due("6: exchange", x.exchange(0, 0), program.equals("r0r0") ? 0 : 1);
            Checks.due("6: count(7)", x.count(7), 0);
            Checks.due("6: count(6)", x.count(6), 4);
            Checks.due("6: the pad stays", x.count(5), 2);
            Checks.due("6: undo()", x.undo(), 3);
            Checks.due("6: count(7) then", x.count(7), 2);
        }
    }

    /** "NOT_POSSIBLE if the program would not be well then": every pair of every well program of up to four steps. */
    private static void promise6WouldNotBeWell() {
        for (int steps = 2; steps <= 4; steps++) {
            for (String program : lockPrograms(steps)) {
                for (int step = 0; isWell(program) && step + 1 < steps; step++) {
                    exchangeIn(program, step);
                }
            }
        }
    }

    private static void exchangeIn(String program, int step) {
        String exchanged = program.substring(0, 2 * step) + program.substring(2 * step + 2, 2 * step + 4)
                + program.substring(2 * step, 2 * step + 2) + program.substring(2 * step + 4);
        SleepSteps x = Checks.with("l0l1", program);
        int due = isWell(exchanged) ? 1 : NOT_POSSIBLE;
        Checks.due("6: exchange(1, " + step + ") of " + program, x.exchange(1, step), due);
        Checks.dueText("6: programs", Checks.programs(x), "l0l1," + (due == 1 ? exchanged : program) + ",,");
    }

    private static SleepSteps withSixEach() {
        return Checks.with(SIX, SIX, SIX, SIX);
    }

    private static String run(int steps) {
        return "012301230123012301230123012301230123".substring(0, steps);
    }

    /** "Returns how many steps it has", from none to 24; "and empties the pad". */
    private static void promise7HowManySteps() {
        for (int n = 0; n <= 24; n++) {
            SleepSteps x = withSixEach();
            Checks.due("7: keep() of " + n, Checks.keep(x, run(n)), n);
            Checks.due("7: count(7)", x.count(7), n);
            Checks.due("7: count(5)", x.count(5), 0);
            Checks.due("7: count(6)", x.count(6), 5);
            Checks.due("7: keep() of nothing", x.keep(), 0);
            Checks.due("7: count(7)", x.count(7), 0);
            Checks.due("7: count(6)", x.count(6), 6);
        }
    }

    /** "BAD_TEXT if the pad has a fault as a run." */
    private static void promise7BadText() {
        SleepSteps x = withSixEach();
        for (int place = 0; place < 24; place++) {
            for (char wrong : new char[] {'/', '4', 'r'}) {
                String text = run(place) + wrong + run(23 - place);
                Checks.due("7: keep() of " + text, Checks.keep(x, text), BAD_TEXT);
            }
        }
        Checks.due("7: keep() of 25", Checks.keep(x, run(25)), BAD_TEXT);
        Checks.due("7: the pad stays", x.count(5), 25);
        Checks.due("7: count(6)", x.count(6), 4);
    }

    /** "NOT_POSSIBLE if a thread cannot go where it is its turn": a thread without a next step. */
    private static void promise7NoNextStep() {
        for (int n = 0; n <= 6; n++) {
            for (int thread = 0; thread < 4; thread++) {
                SleepSteps x = new SleepSteps();
                Checks.program(x, thread, SIX.substring(0, 2 * n));
                String all = ("" + thread).repeat(n);
                Checks.due("7: keep() of " + all, Checks.keep(x, all), n);
                Checks.due("7: one step more", Checks.keep(x, all + thread), NOT_POSSIBLE);
                Checks.due("7: another thread", Checks.keep(x, all + (thread + 1) % 4), NOT_POSSIBLE);
                Checks.due("7: count(7)", x.count(7), n);
            }
        }
    }

    /** "Not a step that locks a lock which another thread holds": locked by its steps and not unlocked. */
    private static void promise7LockHeldByAnother() {
        SleepSteps x = Checks.with("r1l0w1u0", "r0l0w0u0", "l1u1", "w0");
        String[] good = {"001", "0001", "000011", "110", "111100", "0022", "003", "0022001111"};
        for (String text : good) {
            Checks.due("7: keep() of " + text, Checks.keep(x, text), text.length());
        }
        String[] held = {"0011", "00011", "1100", "11100", "002211", "0022011"};
        for (String text : held) {
            Checks.due("7: keep() of " + text, Checks.keep(x, text), NOT_POSSIBLE);
        }
        SleepSteps y = Checks.with("l0", "l0", "l1l0");
        Checks.due("7: a thread without more steps holds its lock", Checks.keep(y, "01"), NOT_POSSIBLE);
        Checks.due("7: another lock", Checks.keep(y, "02"), 2);
        Checks.due("7: then the one that is held", Checks.keep(y, "022"), NOT_POSSIBLE);
    }

    private static void promise7OrderOfErrors() {
        SleepSteps x = Checks.with("r0");
        for (String text : new String[] {"1x", "00x", "3333333333333333333333333"}) {
            Checks.due("7: keep() of " + text, Checks.keep(x, text), BAD_TEXT);
        }
        Checks.due("7: keep() of 24 that cannot go", Checks.keep(x, "333333333333333333333333"), NOT_POSSIBLE);
    }

    /** "NO_SUCH if there is no such thread or step": each step of programs of each length. */
    private static void promise8ThreadAndStep() {
        for (int n = 0; n <= 6; n++) {
            SleepSteps x = Checks.with(SIX, SIX, SIX.substring(0, 2 * n), SIX);
            for (int what = 0; what < 3; what++) {
                for (int step = -2; step <= 7; step++) {
                    boolean isThere = step >= 0 && step < n;
                    String call = "8: ofStep(2, " + step + ", " + what + ") of " + n;
                    Checks.due(call, x.ofStep(2, step, what) >= 0 ? 1 : 0, isThere ? 1 : 0);
                    if (!isThere) {
                        Checks.due(call, x.ofStep(2, step, what), NO_SUCH);
                    }
                }
                for (int bad : new int[] {-1, 4, LEAST, MOST}) {
                    Checks.due("8: ofStep(" + bad + ", 0, " + what + ")", x.ofStep(bad, 0, what), NO_SUCH);
                    int badStep = bad == 4 ? 6 : bad;
                    Checks.due("8: ofStep(0, " + badStep + ", " + what + ")", x.ofStep(0, badStep, what), NO_SUCH);
                }
            }
        }
    }

    /** "BAD_VALUE if what is out of range", and only if there is such a step. */
    private static void promise8What() {
        SleepSteps x = Checks.with("", "w2", "", "l3u3");
        int[][] due = {{SleepSteps.WRITE, 2, 0}, {SleepSteps.LOCK, 3, 0}, {SleepSteps.UNLOCK, 3, 0}};
        for (int what = 0; what < 3; what++) {
            Checks.due("8: ofStep(1, 0, " + what + ")", x.ofStep(1, 0, what), due[0][what]);
            Checks.due("8: ofStep(3, 0, " + what + ")", x.ofStep(3, 0, what), due[1][what]);
            Checks.due("8: ofStep(3, 1, " + what + ")", x.ofStep(3, 1, what), due[2][what]);
        }
        for (int what : new int[] {-1, 3, 4, -6, LEAST, MOST}) {
            Checks.due("8: ofStep(1, 0, " + what + ")", x.ofStep(1, 0, what), BAD_VALUE);
            Checks.due("8: ofStep(1, 1, " + what + ")", x.ofStep(1, 1, what), NO_SUCH);
            Checks.due("8: ofStep(1, -1, " + what + ")", x.ofStep(1, -1, what), NO_SUCH);
            Checks.due("8: ofStep(4, 0, " + what + ")", x.ofStep(4, 0, what), NO_SUCH);
            Checks.due("8: ofStep(-1, 0, " + what + ")", x.ofStep(-1, 0, what), NO_SUCH);
        }
    }

    private static boolean isVariables(char kind) {
        return kind == 'r' || kind == 'w';
    }

    /** "Two steps of different threads commute unless ..": each kind and name with each. */
    private static void promise8WhatCommutes() {
        for (char kind : "rwlu".toCharArray()) {
            for (char other : "rwlu".toCharArray()) {
                for (int names = 0; names < 16; names++) {
                    commute(kind, names / 4, other, names % 4);
                }
            }
        }
    }

    private static void commute(char kind, int name, char other, int otherName) {
        boolean isWritten = isVariables(kind) && isVariables(other) && (kind == 'w' || other == 'w');
        boolean isLock = !isVariables(kind) && !isVariables(other);
        int conflict = name == otherName && (isWritten || isLock) ? 1 : 0;
        // What is unlocked has to be locked first; that makes a conflict more where the other one is of that lock.
        String before = kind == 'u' ? "l" + name : "";
        String otherBefore = other == 'u' ? "l" + otherName : "";
        SleepSteps x = Checks.with("", before + kind + name, "", otherBefore + other + otherName);
        String pair = before + kind + name + " and " + otherBefore + other + otherName;
        int steps = 1 + before.length() / 2;
        int otherSteps = 1 + otherBefore.length() / 2;
        Checks.due("8: of " + pair, x.ofStep(1, steps - 1, 2), conflict * otherSteps);
        Checks.due("8: of " + pair, x.ofStep(3, otherSteps - 1, 2), conflict * steps);
        Checks.due("9: count(8) of " + pair, x.count(8), conflict * steps * otherSteps);
    }

    /** "Steps of other threads": none of its own, and at most 18. */
    private static void promise8FewestAndMost() {
        SleepSteps own = Checks.with("w0w0w0w0r0r0");
        String most = "w0w0w0w0w0w0";
        SleepSteps all = Checks.with(most, most, most, most);
        SleepSteps oneLess = Checks.with(most, most, most, "w0w0w0w0w0w1");
        for (int step = 0; step < 6; step++) {
            Checks.due("8: own steps do not count", own.ofStep(0, step, 2), 0);
            Checks.due("8: the most", all.ofStep(step % 4, step, 2), 18);
            Checks.due("8: one less", oneLess.ofStep(0, step, 2), 17);
        }
        Checks.due("8: the one", oneLess.ofStep(3, 5, 2), 0);
        Checks.due("9: count(8) of one thread", own.count(8), 0);
        Checks.due("9: count(8)", all.count(8), 216);
        Checks.due("9: count(8), one less", oneLess.count(8), 198);
    }

    /** "BAD_VALUE if what is out of range." */
    private static void promise9What() {
        for (SleepSteps x : new SleepSteps[] {new SleepSteps(), withSixEach()}) {
            for (int what : new int[] {-2, -1, 9, 10, -6, LEAST, MOST}) {
                Checks.due("9: count(" + what + ")", x.count(what), BAD_VALUE);
            }
            for (int what = 0; what <= 8; what++) {
                Checks.due("9: count(" + what + ") is a number", x.count(what) >= 0 ? 1 : 0, 1);
            }
        }
    }

    /** Each number at its least, one above, and at its most. */
    private static void promise9FewestAndMost() {
        dueCounts(new SleepSteps(), 0, 0, 0, 0, 0, 0, 0, 0, 0);
        SleepSteps one = Checks.with("w0", "", "r0");
        Checks.keep(one, "2");
        Checks.put(one, "!");
        dueCounts(one, 1, 0, 1, 0, 2, 1, 4, 1, 1);
        String most = "w0w0w0w0w0w0";
        SleepSteps x = Checks.with(most, most, most, most);
        for (int i = 0; i < 5; i++) {
            Checks.keep(x, run(24));
        }
        Checks.put(x, run(32) + "~~~~~~~~");
        dueCounts(x, 6, 6, 6, 6, 24, 40, 6, 24, 216);
    }

    private static void dueCounts(SleepSteps x, int... due) {
        for (int what = 0; what < due.length; what++) {
            Checks.due("9: count(" + what + ")", x.count(what), due[what]);
        }
    }
}
