/** What the tests share: counting wrong answers, and putting texts. */
final class Checks {
    private static int checked = 0;
    private static int wrong = 0;

    private Checks() {
    }

    static void due(String call, long got, long want) {
        checked++;
        if (got != want) {
            wrong++;
            System.out.println(call + " answered " + got + ", due is " + want);
        }
    }

    static void finish() {
        System.out.println(checked + " answers, " + wrong + " wrong");
        if (wrong != 0) {
            System.exit(1);
        }
    }

    /** Up to eight characters as the number that put() takes. */
    static long pack(String text) {
        long number = 0;
        for (int i = 0; i < text.length(); i++) {
            number = number << 8 | text.charAt(i);
        }
        return number;
    }

    /** Puts a text of any length, eight characters a call. */
    static void put(SleepSteps x, String text) {
        for (int i = 0; i < text.length(); i += 8) {
            x.put(pack(text.substring(i, Math.min(i + 8, text.length()))));
        }
    }

    static void write(SleepSteps x, String text) {
        x.wipe();
        put(x, text);
    }

    static int program(SleepSteps x, int thread, String text) {
        write(x, text);
        return x.program(thread);
    }

    static int keep(SleepSteps x, String text) {
        write(x, text);
        return x.keep();
    }

    static int alike(SleepSteps x, String text) {
        write(x, text);
        return x.alike();
    }

    /** A new object with these programs, from thread 0 on. */
    static SleepSteps with(String... programs) {
        SleepSteps x = new SleepSteps();
        for (int thread = 0; thread < programs.length; thread++) {
            program(x, thread, programs[thread]);
        }
        return x;
    }

    /** The programs as one text, told by ofStep(): "r0w1,l2,,". */
    static String programs(SleepSteps x) {
        StringBuilder text = new StringBuilder();
        for (int thread = 0; thread < 4; thread++) {
            for (int step = 0; x.ofStep(thread, step, 0) >= 0; step++) {
                text.append("rwlu".charAt(x.ofStep(thread, step, 0))).append(x.ofStep(thread, step, 1));
            }
            text.append(thread < 3 ? "," : "");
        }
        return text.toString();
    }

    static void dueText(String call, String got, String want) {
        due(call + " (" + got + " for " + want + ")", got.equals(want) ? 1 : 0, 1);
    }

    static String least(SleepSteps x) {
        StringBuilder text = new StringBuilder();
        for (int place = 0; x.least(place) >= 0; place++) {
            text.append(x.least(place));
        }
        return text.toString();
    }

    static String way(SleepSteps x) {
        StringBuilder text = new StringBuilder();
        for (int place = 0; x.wayToDeadlock(place) >= 0; place++) {
            text.append(x.wayToDeadlock(place));
        }
        return text.toString();
    }
}
