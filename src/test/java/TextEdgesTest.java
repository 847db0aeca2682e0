/** The edges that promises 1 to 4 name: a test for each sentence, with the value at the edge and its neighbours. */
public final class TextEdgesTest {
    private static final int NONE = SleepSteps.NONE;
    private static final int BAD_VALUE = SleepSteps.BAD_VALUE;
    private static final String PROGRAM = "r0w1l2u2r3w3";
    private static final String RUN = "012301230123012301230123";
    /** 40 characters. */
    private static final String FULL = "0123012301230123012301230123012301230123";

    public static void main(String[] args) {
        promise1WithoutSteps();
        promise1ObjectsOfTheirOwn();
        promise2OneToEightCharacters();
        promise2LastCharacterLowest();
        promise2NoCharacter();
        promise2Codes33To126();
        promise2BitAboveZero();
        promise2NotLongerThan40();
        promise2BadValueBeforeTooMany();
        promise3LengthThatItHad();
        promise4FirstThatCannotStandInProgram();
        promise4ProgramEndsTooEarly();
        promise4SixStepsAtMost();
        promise4WellDoesNotMatter();
        promise4FirstThatCannotStandInRun();
        promise4RunOf24AtMost();
        promise4GoingDoesNotMatter();
        promise4How();
        Checks.finish();
    }

    private static SleepSteps withPad(String text) {
        SleepSteps x = new SleepSteps();
        Checks.put(x, text);
        return x;
    }

    private static String show(String text) {
        return "of \"" + text + "\"";
    }

    /** "Creates threads without steps." */
    private static void promise1WithoutSteps() {
        SleepSteps x = new SleepSteps();
        for (int thread = 0; thread < 4; thread++) {
            Checks.due("1: count(" + thread + ")", x.count(thread), 0);
            Checks.due("1: ofStep(" + thread + ", 0, 0)", x.ofStep(thread, 0, 0), SleepSteps.NO_SUCH);
            Checks.due("1: exchange(" + thread + ", 0)", x.exchange(thread, 0), SleepSteps.NO_SUCH);
            Checks.put(x, "" + thread);
            Checks.due("1: thread " + thread + " cannot go", x.keep(), SleepSteps.NOT_POSSIBLE);
            Checks.due("1: a run of it is not alike to the empty one", x.alike(), 0);
            x.wipe();
        }
        Checks.due("1: nothing can be undone", x.count(6), 0);
        Checks.due("1: the pad is empty", x.count(5), 0);
        Checks.due("1: an empty pad has no fault as a program", x.fault(0), NONE);
        Checks.due("1: an empty pad has no fault as a run", x.fault(1), NONE);
    }

    /** An object knows nothing of another one. */
    private static void promise1ObjectsOfTheirOwn() {
        SleepSteps x = new SleepSteps();
        SleepSteps y = Checks.with("l0l1", "l1l0", "w0", "r0");
        Checks.keep(y, "023");
        y.save(0);
        Checks.put(y, "w0");
        Checks.due("1: y.stands(2)", y.stands(2), 3);
        Checks.due("1: x.stands(2)", x.stands(2), 0);
        Checks.due("1: x.count(4)", x.count(4), 0);
        Checks.due("1: x.count(5)", x.count(5), 0);
        Checks.due("1: x.count(6)", x.count(6), 0);
        Checks.due("1: x.count(7)", x.count(7), 0);
        Checks.due("1: x.restore(0)", x.restore(0), SleepSteps.NOT_POSSIBLE);
        Checks.due("1: y.stands(2) still", y.stands(2), 3);
        Checks.due("1: y.count(7) still", y.count(7), 3);
    }

    /** "1 to 8 characters." Nine do not fit in the number. */
    private static void promise2OneToEightCharacters() {
        for (int n = 1; n <= 8; n++) {
            SleepSteps x = new SleepSteps();
            Checks.due("2: put of " + n, x.put(Checks.pack(RUN.substring(0, n))), n);
            Checks.due("2: count(5)", x.count(5), n);
            Checks.due("2: all of them are there", x.fault(1), NONE);
            Checks.due("2: put of " + n + " more", x.put(Checks.pack(RUN.substring(0, n))), 2 * n);
        }
    }

    /** "Its lowest 8 bits are the last character, the next 8 bits the one before, and so on." */
    private static void promise2LastCharacterLowest() {
        for (int n = 1; n <= 8; n++) {
            for (int place = 0; place < n; place++) {
                String text = RUN.substring(0, place) + "x" + RUN.substring(place + 1, n);
                SleepSteps x = withPad("3");
                x.put(Checks.pack(text));
                Checks.due("2: the place of x in " + text, x.fault(1), 1 + place);
            }
        }
    }

    /** "BAD_VALUE if there is no character." */
    private static void promise2NoCharacter() {
        for (String pad : new String[] {"", "r", FULL.substring(1), FULL}) {
            SleepSteps x = withPad(pad);
            Checks.due("2: put(0)", x.put(0), BAD_VALUE);
            Checks.due("2: put(1)", x.put(1), BAD_VALUE);
            Checks.due("2: put(-1)", x.put(-1), BAD_VALUE);
            Checks.due("2: count(5)", x.count(5), pad.length());
        }
    }

    /** "BAD_VALUE if .. a code is not 33 to 126": each code at each of the places. */
    private static void promise2Codes33To126() {
        for (int n = 1; n <= 8; n++) {
            for (int place = 0; place < n; place++) {
                SleepSteps x = new SleepSteps();
                for (int code = 1; code < 256; code++) {
                    int shift = 8 * place;
                    long number = Checks.pack(RUN.substring(0, n)) & ~(255L << shift) | (long) code << shift;
                    boolean isGood = code >= 33 && code <= 126;
                    Checks.due("2: code " + code + " at " + place + " of " + n, x.put(number), isGood ? n : BAD_VALUE);
                    if (isGood) {
                        x.wipe();
                    }
                }
                Checks.due("2: nothing is left", x.count(5), 0);
            }
        }
    }

    /** "BAD_VALUE if .. a bit above 8 bits that are 0 is not 0": each bit, also the sign; and those of the 8 bits. */
    private static void promise2BitAboveZero() {
        for (int n = 0; n < 8; n++) {
            SleepSteps x = new SleepSteps();
            long text = Checks.pack(RUN.substring(0, n));
            for (int bit = 8 * n + 8; bit < 64; bit++) {
                Checks.due("2: " + n + " characters and bit " + bit, x.put(text | 1L << bit), BAD_VALUE);
            }
            for (int bit = 8 * n; bit < 8 * n + 8; bit++) {
                // Of the powers of two, 64 alone is a character's code.
                int due = bit == 8 * n + 6 ? n + 1 : BAD_VALUE;
                Checks.due("2: " + n + " characters and bit " + bit, x.put(text | 1L << bit), due);
            }
            Checks.due("2: count(5)", x.count(5), n + 1);
        }
    }

    /** "TOO_MANY if the pad would be longer than 40." */
    private static void promise2NotLongerThan40() {
        for (int length = 31; length <= 40; length++) {
            for (int n = 1; n <= 8; n++) {
                SleepSteps x = withPad(FULL.substring(0, length));
                boolean fits = length + n <= 40;
                int due = fits ? length + n : SleepSteps.TOO_MANY;
                Checks.due("2: put of " + n + " at " + length, x.put(Checks.pack(RUN.substring(0, n))), due);
                Checks.due("2: count(5)", x.count(5), fits ? length + n : length);
            }
        }
    }

    private static void promise2BadValueBeforeTooMany() {
        SleepSteps x = withPad(FULL);
        long[] bad = {0, 32, 127, 0x2030L, 0x300030L, 0x3030303030303020L, Long.MIN_VALUE, -1};
        for (long number : bad) {
            Checks.due("2: put(" + number + ") at 40", x.put(number), BAD_VALUE);
        }
        Checks.due("2: put(33) at 40", x.put(33), SleepSteps.TOO_MANY);
        Checks.due("2: put(126) at 40", x.put(126), SleepSteps.TOO_MANY);
    }

    /** "Empties the pad, and returns the length that it had": from empty to full. */
    private static void promise3LengthThatItHad() {
        SleepSteps x = new SleepSteps();
        for (int length = 0; length <= 40; length++) {
            Checks.put(x, FULL.substring(0, length));
            Checks.due("3: wipe() of " + length, x.wipe(), length);
            Checks.due("3: count(5)", x.count(5), 0);
            Checks.due("3: wipe() of nothing", x.wipe(), 0);
        }
        Checks.due("3: it is no change", x.count(6), 0);
    }

    /** "The index of the first character that cannot stand at its place": each character at each place. */
    private static void promise4FirstThatCannotStandInProgram() {
        for (int place = 0; place < 12; place++) {
            String allowed = place % 2 == 0 ? "rwlu" : "0123";
            for (char c = 33; c <= 126; c++) {
                String text = PROGRAM.substring(0, place) + c;
                int whenGood = place % 2 == 0 ? place + 1 : NONE;
                int due = allowed.indexOf(c) >= 0 ? whenGood : place;
                Checks.due("4: fault(0) " + show(text), withPad(text).fault(0), due);
            }
            String twoFaults = PROGRAM.substring(0, place) + "!" + PROGRAM.substring(place) + "!";
            Checks.due("4: fault(0) " + show(twoFaults), withPad(twoFaults).fault(0), place);
        }
    }

    /** "If there is none and the text ends too early, its length." */
    private static void promise4ProgramEndsTooEarly() {
        for (int length = 0; length <= 12; length++) {
            String text = PROGRAM.substring(0, length);
            int due = length % 2 == 0 ? NONE : length;
            Checks.due("4: fault(0) " + show(text), withPad(text).fault(0), due);
        }
    }

    /** "There are at most 6 steps." */
    private static void promise4SixStepsAtMost() {
        for (int length = 10; length <= 40; length++) {
            String text = (PROGRAM + PROGRAM + PROGRAM + PROGRAM).substring(0, length);
            int due = length > 12 ? 12 : length % 2 == 0 ? NONE : length;
            Checks.due("4: fault(0) " + show(text), withPad(text).fault(0), due);
        }
        for (char c = 33; c <= 126; c++) {
            String text = PROGRAM + c;
            Checks.due("4: fault(0) " + show(text), withPad(text).fault(0), 12);
        }
    }

    /** "Whether it is well does not matter." */
    private static void promise4WellDoesNotMatter() {
        for (String text : new String[] {"u0", "u3u3", "l0l0", "l1u1u1", "l2l2l2l2l2l2", "u0u0u0u0u0u0"}) {
            Checks.due("4: fault(0) " + show(text), withPad(text).fault(0), NONE);
            int due = text.length() == 12 ? 12 : text.length() + 1;
            Checks.due("4: fault(0) " + show(text + "r"), withPad(text + "r").fault(0), due);
        }
    }

    /** "Each character is a digit from 0 to 3." */
    private static void promise4FirstThatCannotStandInRun() {
        for (int place = 0; place < 24; place++) {
            for (char c = 33; c <= 126; c++) {
                String text = RUN.substring(0, place) + c;
                int due = "0123".indexOf(c) >= 0 ? NONE : place;
                Checks.due("4: fault(1) " + show(text), withPad(text).fault(1), due);
            }
            String twoFaults = RUN.substring(0, place) + "4" + RUN.substring(place) + "4";
            Checks.due("4: fault(1) " + show(twoFaults), withPad(twoFaults).fault(1), place);
        }
    }

    /** "24 at most." No text ends too early as a run. */
    private static void promise4RunOf24AtMost() {
        for (int length = 0; length <= 40; length++) {
            String text = FULL.substring(0, length);
            Checks.due("4: fault(1) " + show(text), withPad(text).fault(1), length > 24 ? 24 : NONE);
        }
        for (char c = 33; c <= 126; c++) {
            String text = RUN + c;
            Checks.due("4: fault(1) " + show(text), withPad(text).fault(1), 24);
        }
    }

    /** "Whether the threads can go does not matter." */
    private static void promise4GoingDoesNotMatter() {
        SleepSteps x = Checks.with("l0", "l0");
        for (String text : new String[] {"0", "00", "01", "3", "333333333333333333333333"}) {
            Checks.write(x, text);
            Checks.due("4: fault(1) " + show(text), x.fault(1), NONE);
        }
    }

    /** "BAD_VALUE if how is neither 0 nor 1", whatever the pad is. */
    private static void promise4How() {
        for (String pad : new String[] {"", "r0", "01", "!", FULL}) {
            SleepSteps x = withPad(pad);
            for (int how : new int[] {-1, 2, 3, -6, Integer.MIN_VALUE, Integer.MAX_VALUE}) {
                Checks.due("4: fault(" + how + ") " + show(pad), x.fault(how), BAD_VALUE);
            }
        }
        Checks.due("4: fault(0)", withPad("01").fault(0), 0);
        Checks.due("4: fault(1)", withPad("01").fault(1), NONE);
    }
}
