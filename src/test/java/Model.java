import java.util.ArrayDeque;
import java.util.ArrayList;
import java.util.Deque;
import java.util.HashMap;
import java.util.HashSet;
import java.util.List;
import java.util.Map;
import java.util.TreeSet;

/**
 * The document once more, in the most literal way and without a thought of cost: stands are found by
 * walking, small programs' runs are listed one by one, runs that are alike are found by exchanging neighbours.
 */
final class Model {
    private static final int NO_SUCH = -1, BAD_VALUE = -2, BAD_TEXT = -3, TOO_MANY = -4, NOT_POSSIBLE = -5, NONE = -6;

    /** Programs and kept run; never changed once made. */
    private static final class State {
        final String[] programs;
        final String run;

        State(String[] programs, String run) {
            this.programs = programs;
            this.run = run;
        }
    }

    private String pad = "";
    private State now = new State(new String[] {"", "", "", ""}, "");
    private final Deque<State> past = new ArrayDeque<>();
    private final State[] slots = new State[2];

    // ---- texts

    int put(long characters) {
        String text = "";
        boolean over = false;
        for (int i = 0; i < 8; i++) {
            int code = (int) (characters >> (8 * i) & 0xFF);
            if (code == 0) {
                over = true;
            } else if (over || code < 33 || code > 126) {
                return BAD_VALUE;
            } else {
                text = (char) code + text;
            }
        }
        if (text.isEmpty()) {
            return BAD_VALUE;
        }
        if ((pad + text).length() > 40) {
            return TOO_MANY;
        }
        pad += text;
        return pad.length();
    }

    int wipe() {
        int length = pad.length();
        pad = "";
        return length;
    }

    /** The longest begin of the pad that some right text has; what is behind it is the fault. */
    int fault(int how) {
        if (how != 0 && how != 1) {
            return BAD_VALUE;
        }
        String begin = how == 0 ? "([rwlu][0-3]){0,5}([rwlu][0-3]?)?" : "[0-3]{0,24}";
        String whole = how == 0 ? "([rwlu][0-3]){0,6}" : "[0-3]{0,24}";
        int good = 0;
        while (good < pad.length() && pad.substring(0, good + 1).matches(begin)) {
            good++;
        }
        return good < pad.length() || !pad.matches(whole) ? good : NONE;
    }

    // ---- programs, the kept run

    private void change(State next) {
        past.addLast(now);
        if (past.size() > 6) {
            past.removeFirst();
        }
        now = next;
    }

    private static boolean well(String program) {
        TreeSet<Character> held = new TreeSet<>();
        for (int i = 0; i < program.length(); i += 2) {
            if (program.charAt(i) == 'l' && !held.add(program.charAt(i + 1))) {
                return false;
            }
            if (program.charAt(i) == 'u' && !held.remove(program.charAt(i + 1))) {
                return false;
            }
        }
        return true;
    }

    private State with(int thread, String program) {
        String[] programs = now.programs.clone();
        programs[thread] = program;
        return new State(programs, "");
    }

    int program(int thread) {
        if (thread < 0 || thread > 3) {
            return NO_SUCH;
        }
        if (fault(0) != NONE) {
            return BAD_TEXT;
        }
        if (!well(pad)) {
            return NOT_POSSIBLE;
        }
        change(with(thread, pad));
        return wipe() / 2;
    }

    int exchange(int thread, int step) {
        if (thread < 0 || thread > 3 || step < 0 || 2L * step + 4 > now.programs[thread].length()) {
            return NO_SUCH;
        }
        String old = now.programs[thread];
        String one = old.substring(2 * step, 2 * step + 2);
        String two = old.substring(2 * step + 2, 2 * step + 4);
        String program = old.substring(0, 2 * step) + two + one + old.substring(2 * step + 4);
        if (!well(program)) {
            return NOT_POSSIBLE;
        }
        change(with(thread, program));
        return one.equals(two) ? 0 : 1;
    }

    int keep() {
        if (fault(1) != NONE) {
            return BAD_TEXT;
        }
        if (!isRun(now.programs, pad)) {
            return NOT_POSSIBLE;
        }
        change(new State(now.programs, pad));
        return wipe();
    }

    // ---- what there is

    private static String step(String[] programs, int thread, int step) {
        String program = programs[thread];
        return 2 * step < program.length() ? program.substring(2 * step, 2 * step + 2) : null;
    }

    private static boolean commute(String one, String two) {
        if (one.charAt(1) != two.charAt(1)) {
            return true;
        }
        String kinds = "" + one.charAt(0) + two.charAt(0);
        return !kinds.matches("ww|wr|rw|ll|lu|ul|uu");
    }

    int ofStep(int thread, int step, int what) {
        if (thread < 0 || thread > 3 || step < 0 || step >= now.programs[thread].length() / 2) {
            return NO_SUCH;
        }
        String code = step(now.programs, thread, step);
        if (what == 0) {
            return "rwlu".indexOf(code.charAt(0));
        }
        if (what == 1) {
            return code.charAt(1) - '0';
        }
        if (what != 2) {
            return BAD_VALUE;
        }
        int n = 0;
        for (int other = 0; other < 4; other++) {
            for (int i = 0; other != thread && i < now.programs[other].length() / 2; i++) {
                n += commute(code, step(now.programs, other, i)) ? 0 : 1;
            }
        }
        return n;
    }

    int count(int what) {
        int pairs = 0;
        for (int thread = 0; thread < 4; thread++) {
            for (int i = 0; i < now.programs[thread].length() / 2; i++) {
                pairs += ofStep(thread, i, 2);
            }
        }
        int[] numbers = {
            now.programs[0].length() / 2, now.programs[1].length() / 2, now.programs[2].length() / 2,
            now.programs[3].length() / 2, String.join("", now.programs).length() / 2, pad.length(), past.size(),
            now.run.length(), pairs / 2,
        };
        return what >= 0 && what < numbers.length ? numbers[what] : BAD_VALUE;
    }

    // ---- stands: texts of four digits

    private static TreeSet<Integer> held(String[] programs, String stand, int thread) {
        TreeSet<Integer> held = new TreeSet<>();
        for (int i = 0; i < stand.charAt(thread) - '0'; i++) {
            String code = step(programs, thread, i);
            if (code.charAt(0) == 'l') {
                held.add(code.charAt(1) - '0');
            }
            if (code.charAt(0) == 'u') {
                held.remove(code.charAt(1) - '0');
            }
        }
        return held;
    }

    private static String next(String[] programs, String stand, int thread) {
        return step(programs, thread, stand.charAt(thread) - '0');
    }

    private static boolean canGo(String[] programs, String stand, int thread) {
        String code = next(programs, stand, thread);
        if (code == null) {
            return false;
        }
        for (int other = 0; other < 4; other++) {
            if (other != thread && code.charAt(0) == 'l' && held(programs, stand, other).contains(code.charAt(1) - '0')) {
                return false;
            }
        }
        return true;
    }

    private static String after(String stand, int thread) {
        char done = (char) (stand.charAt(thread) + 1);
        return stand.substring(0, thread) + done + stand.substring(thread + 1);
    }

    private static boolean isRun(String[] programs, String run) {
        String stand = "0000";
        for (char c : run.toCharArray()) {
            if (!canGo(programs, stand, c - '0')) {
                return false;
            }
            stand = after(stand, c - '0');
        }
        return true;
    }

    /** All reachable stands, found breadth first, sorted by their texts. */
    private static TreeSet<String> reachable(String[] programs) {
        TreeSet<String> seen = new TreeSet<>();
        Deque<String> open = new ArrayDeque<>(List.of("0000"));
        while (!open.isEmpty()) {
            String stand = open.removeFirst();
            if (seen.add(stand)) {
                for (int thread = 0; thread < 4; thread++) {
                    if (canGo(programs, stand, thread)) {
                        open.addLast(after(stand, thread));
                    }
                }
            }
        }
        return seen;
    }

    private static boolean isEnd(String[] programs, String stand) {
        for (int thread = 0; thread < 4; thread++) {
            if (canGo(programs, stand, thread)) {
                return false;
            }
        }
        return true;
    }

    private static boolean isDeadlock(String[] programs, String stand) {
        boolean unfinished = false;
        for (int thread = 0; thread < 4; thread++) {
            unfinished |= next(programs, stand, thread) != null;
        }
        return unfinished && isEnd(programs, stand);
    }

    private static List<String> deadlocks(String[] programs) {
        List<String> found = new ArrayList<>(reachable(programs));
        found.removeIf(stand -> !isDeadlock(programs, stand));
        return found;
    }

    int stands(int what) {
        if (what == 0) {
            return reachable(now.programs).size();
        }
        if (what == 1) {
            return (int) reachable(now.programs).stream().filter(stand -> isEnd(now.programs, stand)).count();
        }
        return what == 2 ? deadlocks(now.programs).size() : BAD_VALUE;
    }

    int deadlock(int i, int what) {
        List<String> found = deadlocks(now.programs);
        if (i < 0 || i >= found.size()) {
            return NO_SUCH;
        }
        String stand = found.get(i);
        int unfinished = 0;
        int length = 0;
        int locks = 0;
        for (int thread = 0; thread < 4; thread++) {
            unfinished += next(now.programs, stand, thread) != null ? 1 << thread : 0;
            length += stand.charAt(thread) - '0';
            for (int lock : held(now.programs, stand, thread)) {
                locks |= 1 << lock;
            }
        }
        switch (what) {
            case 4: return unfinished;
            case 5: return length;
            case 6: return locks;
            default: return what >= 0 && what < 4 ? stand.charAt(what) - '0' : BAD_VALUE;
        }
    }

    private long runsFrom(String stand, boolean toDeadlocks, Map<String, Long> known) {
        if (known.containsKey(stand)) {
            return known.get(stand);
        }
        long sum = 0;
        if (isEnd(now.programs, stand)) {
            sum = !toDeadlocks || isDeadlock(now.programs, stand) ? 1 : 0;
        }
        for (int thread = 0; thread < 4; thread++) {
            if (canGo(now.programs, stand, thread)) {
                sum += runsFrom(after(stand, thread), toDeadlocks, known);
            }
        }
        known.put(stand, sum);
        return sum;
    }

    long runs(int what) {
        return what == 0 || what == 1 ? runsFrom("0000", what == 1, new HashMap<>()) : BAD_VALUE;
    }

    /** Explores as the document says it; the limit stands for "too many for this model". */
    private boolean explore(String stand, TreeSet<Integer> sleep, long[] counts, HashSet<String> met) {
        if (counts[0] + counts[1] > 20000) {
            return false;
        }
        if (isEnd(now.programs, stand)) {
            counts[0]++;
            if (isDeadlock(now.programs, stand)) {
                met.add(stand);
            }
            return true;
        }
        boolean cut = true;
        List<Integer> went = new ArrayList<>();
        for (int thread = 0; thread < 4; thread++) {
            if (canGo(now.programs, stand, thread) && !sleep.contains(thread)) {
                cut = false;
                TreeSet<Integer> rest = new TreeSet<>(sleep);
                rest.addAll(went);
                String going = next(now.programs, stand, thread);
                rest.removeIf(other -> !commute(next(now.programs, stand, other), going));
                if (!explore(after(stand, thread), rest, counts, met)) {
                    return false;
                }
                went.add(thread);
            }
        }
        counts[1] += cut ? 1 : 0;
        return true;
    }

    /** What sleeping(0) to sleeping(2) answer, null if that is too much for this model. */
    long[] sleeping() {
        long[] counts = new long[2];
        HashSet<String> met = new HashSet<>();
        if (!explore("0000", new TreeSet<>(), counts, met)) {
            return null;
        }
        return new long[] {counts[0], counts[1], met.size()};
    }

    /** Length by length, the least run to each stand first. */
    private String way() {
        Map<String, String> least = new HashMap<>();
        least.put("0000", "");
        for (int length = 0; length <= 24; length++) {
            TreeSet<String> ways = new TreeSet<>();
            for (String stand : least.keySet()) {
                if (isDeadlock(now.programs, stand)) {
                    ways.add(least.get(stand));
                }
            }
            if (!ways.isEmpty()) {
                return ways.first();
            }
            Map<String, String> longer = new HashMap<>();
            for (String stand : least.keySet()) {
                for (int thread = 0; thread < 4; thread++) {
                    if (canGo(now.programs, stand, thread)) {
                        longer.merge(after(stand, thread), least.get(stand) + thread,
                                (one, two) -> one.compareTo(two) < 0 ? one : two);
                    }
                }
            }
            least = longer;
        }
        return null;
    }

    int wayToDeadlock(int place) {
        if (place < -1) {
            return BAD_VALUE;
        }
        String way = way();
        if (way == null || place >= way.length()) {
            return NONE;
        }
        return place == -1 ? way.length() : way.charAt(place) - '0';
    }

    int without(int lock) {
        if (lock < 0 || lock > 3) {
            return NO_SUCH;
        }
        String[] programs = now.programs.clone();
        for (int thread = 0; thread < 4; thread++) {
            programs[thread] = programs[thread].replace("l" + lock, "").replace("u" + lock, "");
        }
        return deadlocks(programs).size();
    }

    // ---- the run that is kept

    private static List<String> codes(String[] programs, String run) {
        List<String> codes = new ArrayList<>();
        int[] done = new int[4];
        for (char c : run.toCharArray()) {
            codes.add(step(programs, c - '0', done[c - '0']++));
        }
        return codes;
    }

    /** All runs alike to the kept one, by exchanging neighbours again and again; null if they are too many. */
    TreeSet<String> allAlike() {
        TreeSet<String> seen = new TreeSet<>(List.of(now.run));
        Deque<String> open = new ArrayDeque<>(seen);
        while (!open.isEmpty()) {
            String run = open.removeFirst();
            List<String> codes = codes(now.programs, run);
            for (int i = 0; i + 1 < run.length(); i++) {
                if (run.charAt(i) != run.charAt(i + 1) && commute(codes.get(i), codes.get(i + 1))) {
                    String other = run.substring(0, i) + run.charAt(i + 1) + run.charAt(i) + run.substring(i + 2);
                    if (seen.add(other)) {
                        open.addLast(other);
                    }
                }
            }
            if (seen.size() > 3000) {
                return null;
            }
        }
        return seen;
    }

    /** alike(), given all that are alike to the kept run. */
    int alike(TreeSet<String> all) {
        if (fault(1) != NONE) {
            return BAD_TEXT;
        }
        return all.contains(pad) ? 1 : 0;
    }

    int chain() {
        List<String> codes = codes(now.programs, now.run);
        int longest = 0;
        for (int i = 0; i < codes.size(); i++) {
            longest = Math.max(longest, chainFrom(i, codes, new HashMap<>()));
        }
        return longest;
    }

    private int chainFrom(int i, List<String> codes, Map<Integer, Integer> known) {
        if (known.containsKey(i)) {
            return known.get(i);
        }
        int longest = 0;
        for (int j = i + 1; j < codes.size(); j++) {
            if (now.run.charAt(i) == now.run.charAt(j) || !commute(codes.get(i), codes.get(j))) {
                longest = Math.max(longest, chainFrom(j, codes, known));
            }
        }
        known.put(i, longest + 1);
        return longest + 1;
    }

    int lastWrite(int variable, int what) {
        if (variable < 0 || variable > 3) {
            return NO_SUCH;
        }
        if (what != 0 && what != 1) {
            return BAD_VALUE;
        }
        int at = codes(now.programs, now.run).lastIndexOf("w" + variable);
        if (at < 0) {
            return NONE;
        }
        char writer = now.run.charAt(at);
        return what == 0 ? writer - '0' : (int) now.run.substring(0, at).chars().filter(c -> c == writer).count();
    }

    // ---- undo, saving

    int undo() {
        if (past.isEmpty()) {
            return NOT_POSSIBLE;
        }
        now = past.removeLast();
        return past.size();
    }

    int save(int slot) {
        if (slot != 0 && slot != 1) {
            return BAD_VALUE;
        }
        slots[slot] = now;
        return count(4);
    }

    int restore(int slot) {
        if (slot != 0 && slot != 1) {
            return BAD_VALUE;
        }
        if (slots[slot] == null) {
            return NOT_POSSIBLE;
        }
        change(slots[slot]);
        return count(4);
    }

    // ---- for the test that makes calls

    /** A run that is possible, of at most so many steps, chosen by the numbers. */
    String someRun(int most, Numbers numbers) {
        String run = "";
        String stand = "0000";
        while (run.length() < most && !isEnd(now.programs, stand)) {
            int thread = numbers.below(4);
            if (canGo(now.programs, stand, thread)) {
                run += thread;
                stand = after(stand, thread);
            }
        }
        return run;
    }
}
