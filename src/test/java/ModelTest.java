import java.util.TreeSet;

/** Long rows of calls, each answer compared with that of the Model. */
public final class ModelTest {
    private static final int[] ODD = {-1, 4, 2, 7, 9, -2, Integer.MIN_VALUE, Integer.MAX_VALUE, -6, 24};

    private final SleepSteps x = new SleepSteps();
    private final Model model = new Model();
    private final Numbers numbers;
    private final String name;

    private ModelTest(long seed) {
        numbers = new Numbers(seed);
        name = "row " + seed + ": ";
    }

    public static void main(String[] args) {
        for (int seed = 1; seed <= 400; seed++) {
            new ModelTest(seed).go(seed % 4 == 0 ? 6 : 3);
        }
        Checks.finish();
    }

    private void due(String call, long got, long want) {
        Checks.due(name + call, got, want);
    }

    /** A row of changes and texts, with all questions in between; some 300 calls. */
    private void go(int mostSteps) {
        for (int thread = 0; thread < 4; thread++) {
            someProgram(thread, mostSteps);
        }
        for (int i = 0; i < 14; i++) {
            act(mostSteps);
            if (i % 7 == 6) {
                askAll();
            }
        }
        askAll();
    }

    private void act(int mostSteps) {
        int at = numbers.below(9) == 0 ? ODD[numbers.below(ODD.length)] : numbers.below(4);
        int step = numbers.below(mostSteps + 1) - 1;
        switch (numbers.below(9)) {
            case 0: someProgram(at, mostSteps); break;
            case 1: due("exchange", x.exchange(at, step), model.exchange(at, step)); break;
            case 2: someRun(9); break;
            case 3: someRun(24); break;
            case 4: due("undo", x.undo(), model.undo()); break;
            case 5: due("save", x.save(at & 1), model.save(at & 1)); break;
            case 6: due("restore", x.restore(at & 1), model.restore(at & 1)); break;
            case 7: someText(); break;
            default: due("wipe", x.wipe(), model.wipe()); break;
        }
    }

    private void someText() {
        long number = 0;
        for (int i = numbers.below(9); i > 0; i--) {
            number = number << 8 | "rwlu0123rwlu01234 \u0000\u007F~!\u00E9".charAt(numbers.below(23));
        }
        due("put " + number, x.put(number), model.put(number));
    }

    private void write(String text) {
        due("wipe", x.wipe(), model.wipe());
        for (int i = 0; i < text.length(); i += 8) {
            long number = Checks.pack(text.substring(i, Math.min(i + 8, text.length())));
            due("put", x.put(number), model.put(number));
        }
    }

    private void someProgram(int thread, int mostSteps) {
        StringBuilder text = new StringBuilder();
        int names = 1 + numbers.below(4);
        for (int i = numbers.below(mostSteps + 1); i > 0; i--) {
            addStep(text, names);
        }
        write(text.toString());
        due("program(" + thread + ") " + text, x.program(thread), model.program(thread));
    }

    /** One step more; in nearly all programs one that is well there. */
    private void addStep(StringBuilder text, int names) {
        boolean isAny = numbers.below(25) == 0;
        for (int tries = 0; tries < 20; tries++) {
            char kind = "rwllluu".charAt(numbers.below(7));
            int name = numbers.below(names);
            boolean holds = text.lastIndexOf("l" + name) > text.lastIndexOf("u" + name);
            if (isAny || kind != 'l' && kind != 'u' || holds == (kind == 'u')) {
                text.append(kind).append(name);
                return;
            }
        }
    }

    private void someRun(int most) {
        String run = model.someRun(numbers.below(most + 1), numbers);
        if (numbers.below(5) == 0) {
            run += numbers.below(4);
        }
        write(run);
        due("keep " + run, x.keep(), model.keep());
    }

    private void askAll() {
        askTexts();
        askSteps();
        askStands();
        askRun();
    }

    private void askTexts() {
        for (int how = -1; how <= 2; how++) {
            due("fault(" + how + ")", x.fault(how), model.fault(how));
        }
    }

    private void askSteps() {
        for (int what = -1; what <= 9; what++) {
            due("count(" + what + ")", x.count(what), model.count(what));
        }
        for (int i = 0; i < 30; i++) {
            int thread = numbers.below(6) - 1;
            int step = numbers.below(8) - 1;
            int what = numbers.below(5) - 1;
            due("ofStep", x.ofStep(thread, step, what), model.ofStep(thread, step, what));
        }
    }

    private void askStands() {
        for (int what = -1; what <= 3; what++) {
            due("stands(" + what + ")", x.stands(what), model.stands(what));
            due("runs(" + what + ")", x.runs(what), model.runs(what));
        }
        for (int i = 0; i < 12; i++) {
            int at = numbers.below(6) - 1;
            int what = numbers.below(9) - 1;
            due("deadlock(" + at + ", " + what + ")", x.deadlock(at, what), model.deadlock(at, what));
        }
        long[] sleeping = model.sleeping();
        for (int what = 0; sleeping != null && what < 3; what++) {
            due("sleeping(" + what + ")", x.sleeping(what), sleeping[what]);
        }
        int length = Math.max(0, model.wayToDeadlock(-1));
        for (int place = -2; place <= length; place++) {
            due("wayToDeadlock(" + place + ")", x.wayToDeadlock(place), model.wayToDeadlock(place));
        }
        for (int lock = -1; lock <= 4; lock++) {
            due("without(" + lock + ")", x.without(lock), model.without(lock));
        }
    }

    private void askRun() {
        due("chain()", x.chain(), model.chain());
        for (int i = 0; i < 6; i++) {
            int variable = numbers.below(6) - 1;
            int what = numbers.below(4) - 1;
            due("lastWrite", x.lastWrite(variable, what), model.lastWrite(variable, what));
        }
        TreeSet<String> all = model.allAlike();
        if (all == null) {
            return;
        }
        due("alikeRuns()", x.alikeRuns(), all.size());
        String least = all.first();
        Checks.dueText(name + "least", Checks.least(x), least);
        due("least(-1)", x.least(-1), -2);
        due("alike()", x.alike(), model.alike(all));
        askAlike(all.last(), all);
        askAlike(model.someRun(least.length(), numbers), all);
        askAlike(swapped(least), all);
    }

    private void askAlike(String run, TreeSet<String> all) {
        write(run);
        due("alike() of " + run, x.alike(), model.alike(all));
    }

    private String swapped(String run) {
        if (run.length() < 2) {
            return run;
        }
        int i = numbers.below(run.length() - 1);
        return run.substring(0, i) + run.charAt(i + 1) + run.charAt(i) + run.substring(i + 2);
    }
}
