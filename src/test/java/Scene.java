import java.util.ArrayList;
import java.util.List;
import java.util.function.IntFunction;

/**
 * A state that can be made again and again. A call that must change nothing is made in one copy of it and not in
 * the other: then every question answers the same in both, and so does every change, and all questions after it.
 */
final class Scene {
    interface Maker {
        SleepSteps make();
    }

    interface Call {
        long on(SleepSteps x);
    }

    private static final List<Call> CHANGES = changes();

    private final String name;
    private final Maker maker;
    private List<String> untouched;

    Scene(String name, Maker maker) {
        this.name = name;
        this.maker = maker;
    }

    SleepSteps make() {
        return maker.make();
    }

    /** The call answers what is due, also when it is made twice, and all other calls answer as without it. */
    void leavesAll(String call, Call made, long due) {
        SleepSteps x = make();
        Checks.due(name + ": " + call, made.on(x), due);
        Checks.due(name + ": " + call + " again", made.on(x), due);
        if (untouched == null) {
            untouched = allAnswers(y -> 0);
        }
        List<String> touched = allAnswers(made);
        int same = 0;
        while (same < untouched.size() && same < touched.size() && untouched.get(same).equals(touched.get(same))) {
            same++;
        }
        boolean isSame = same == untouched.size() && same == touched.size();
        String first = isSame || same >= touched.size() ? "" : " (" + touched.get(same) + ")";
        Checks.due(name + ": all is as before after " + call + first, isSame ? 1 : 0, 1);
    }

    /** The same for many values of one argument. */
    void leavesAll(String call, int[] values, IntFunction<Call> made, long due) {
        for (int value : values) {
            leavesAll(call + " with " + value, made.apply(value), due);
        }
    }

    private List<String> allAnswers(Call first) {
        List<String> answers = new ArrayList<>();
        SleepSteps asked = make();
        first.on(asked);
        ask(asked, answers, "then ");
        for (int i = 0; i < CHANGES.size(); i++) {
            SleepSteps x = make();
            first.on(x);
            answers.add("change " + i + ": " + CHANGES.get(i).on(x));
            ask(x, answers, "after change " + i + ": ");
        }
        SleepSteps undone = make();
        first.on(undone);
        undoAll(undone, answers);
        return answers;
    }

    /** Each call that is a change, and those that change the pad, a slot or the history. */
    private static List<Call> changes() {
        List<Call> changes = new ArrayList<>();
        changes.add(x -> x.wipe());
        changes.add(x -> x.put('0'));
        changes.add(x -> x.put(Checks.pack("r0r0r0r0")));
        changes.add(x -> x.keep());
        changes.add(x -> x.undo());
        for (int i = 0; i < 4; i++) {
            int thread = i;
            changes.add(x -> x.program(thread));
            for (int k = 0; k < 5; k++) {
                int step = k;
                changes.add(x -> x.exchange(thread, step));
            }
        }
        for (int i = 0; i < 2; i++) {
            int slot = i;
            changes.add(x -> x.save(slot));
            changes.add(x -> x.restore(slot));
        }
        return changes;
    }

    private static void undoAll(SleepSteps x, List<String> answers) {
        for (int i = 0; i < 7; i++) {
            answers.add("undo " + i + ": " + x.undo());
            answers.add("programs after undo " + i + ": " + Checks.programs(x));
            answers.add("run after undo " + i + ": " + Checks.least(x));
        }
    }

    /** All that can be asked; some 150 calls where there are a dozen steps. */
    private static void ask(SleepSteps x, List<String> answers, String when) {
        askProgramsAndTexts(x, answers, when);
        askStands(x, answers, when);
        askRun(x, answers, when);
    }

    private static void askProgramsAndTexts(SleepSteps x, List<String> answers, String when) {
        for (int what = 0; what <= 8; what++) {
            answers.add(when + "count(" + what + ") " + x.count(what));
        }
        answers.add(when + "fault(0) " + x.fault(0));
        answers.add(when + "fault(1) " + x.fault(1));
        answers.add(when + "programs " + Checks.programs(x));
        for (int thread = 0; thread < 4; thread++) {
            for (int step = 0; x.ofStep(thread, step, 2) >= 0; step++) {
                answers.add(when + "ofStep(" + thread + ", " + step + ", 2) " + x.ofStep(thread, step, 2));
            }
        }
    }

    private static void askStands(SleepSteps x, List<String> answers, String when) {
        for (int what = 0; what < 3; what++) {
            answers.add(when + "stands(" + what + ") " + x.stands(what));
            answers.add(when + "runs(" + what + ") " + x.runs(what));
            answers.add(when + "sleeping(" + what + ") " + x.sleeping(what));
        }
        for (int i = 0; i < 4 && x.deadlock(i, 0) >= 0; i++) {
            for (int what = 0; what < 7; what++) {
                answers.add(when + "deadlock(" + i + ", " + what + ") " + x.deadlock(i, what));
            }
        }
        answers.add(when + "wayToDeadlock " + Checks.way(x) + " " + x.wayToDeadlock(-1));
        for (int lock = 0; lock < 4; lock++) {
            answers.add(when + "without(" + lock + ") " + x.without(lock));
        }
    }

    private static void askRun(SleepSteps x, List<String> answers, String when) {
        answers.add(when + "least " + Checks.least(x));
        answers.add(when + "alike() " + x.alike());
        answers.add(when + "chain() " + x.chain());
        answers.add(when + "alikeRuns() " + x.alikeRuns());
        for (int variable = 0; variable < 4; variable++) {
            answers.add(when + "lastWrite(" + variable + ", 0) " + x.lastWrite(variable, 0));
            answers.add(when + "lastWrite(" + variable + ", 1) " + x.lastWrite(variable, 1));
        }
    }
}
