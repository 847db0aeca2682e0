import java.io.IOException;
import java.lang.reflect.Constructor;
import java.lang.reflect.Field;
import java.lang.reflect.InvocationTargetException;
import java.lang.reflect.Method;
import java.lang.reflect.Modifier;
import java.nio.file.Files;
import java.nio.file.Path;
import java.util.ArrayList;
import java.util.Arrays;
import java.util.List;
import java.util.TreeSet;
import java.util.regex.Matcher;
import java.util.regex.Pattern;

/** The face of the class, the constants, rules of LANGUAGE.md, and that no call throws or makes much. */
public final class RulesTest {
    private static final String FACE = "alike() alikeRuns() chain() count(int) deadlock(int,int) exchange(int,int) "
            + "fault(int) keep() lastWrite(int,int) least(int) ofStep(int,int,int) program(int) put(long) restore(int) "
            + "runs(int) save(int) sleeping(int) stands(int) undo() wayToDeadlock(int) wipe() without(int)";
    private static final long[] ODD = {0, 1, 2, 3, 4, 5, 6, 7, 8, 9, 23, 24, 25, -1, -2, -6, 0x30, 0x6C30, 0x6C306C31,
        0x72307230L, 0x75307530L, 0x3031323330313233L, Long.MIN_VALUE, Long.MAX_VALUE, Integer.MIN_VALUE,
        Integer.MAX_VALUE, Integer.MAX_VALUE - 1, Integer.MIN_VALUE + 1, 0x77307731L, 0x75316C31L};

    public static void main(String[] args) throws IOException, IllegalAccessException {
        face();
        constants();
        members(SleepSteps.class);
        classesInside();
        source();
        noCallThrows();
        callsMakeNothing();
        Checks.finish();
    }

    private static boolean isPrivate(int modifiers) {
        return Modifier.isPrivate(modifiers);
    }

    private static void face() {
        TreeSet<String> methods = new TreeSet<>();
        for (Method method : SleepSteps.class.getDeclaredMethods()) {
            if (Modifier.isPublic(method.getModifiers())) {
                String types = Arrays.toString(method.getParameterTypes()).replaceAll("[\\[\\] ]", "");
                methods.add(method.getName() + "(" + types + ")");
                Class<?> due = List.of("runs", "sleeping", "alikeRuns").contains(method.getName()) ? long.class : int.class;
                Checks.due(method.getName() + " has its type", method.getReturnType() == due ? 1 : 0, 1);
            }
        }
        Checks.dueText("the public methods", String.join(" ", methods), FACE);
        Constructor<?>[] constructors = SleepSteps.class.getDeclaredConstructors();
        Checks.due("constructors", constructors.length, 1);
        Checks.due("public", Modifier.isPublic(constructors[0].getModifiers()) ? 1 : 0, 1);
        Checks.due("without parameters", constructors[0].getParameterCount(), 0);
        int modifiers = SleepSteps.class.getModifiers();
        Checks.due("public final", Modifier.isPublic(modifiers) && Modifier.isFinal(modifiers) ? 1 : 0, 1);
    }

    private static void constants() throws IllegalAccessException {
        StringBuilder text = new StringBuilder();
        for (Field field : SleepSteps.class.getDeclaredFields()) {
            if (Modifier.isPublic(field.getModifiers())) {
                text.append(field.getName()).append('=').append(field.getInt(null)).append(' ');
                Checks.due("a constant", Modifier.isStatic(field.getModifiers()) ? 1 : 0, 1);
            }
        }
        Checks.dueText("the constants", text.toString().trim(), "NO_SUCH=-1 BAD_VALUE=-2 BAD_TEXT=-3 TOO_MANY=-4 "
                + "NOT_POSSIBLE=-5 NONE=-6 READ=0 WRITE=1 LOCK=2 UNLOCK=3");
    }

    private static TreeSet<String> publicNames() {
        TreeSet<String> names = new TreeSet<>();
        for (Method method : SleepSteps.class.getDeclaredMethods()) {
            if (Modifier.isPublic(method.getModifiers())) {
                names.add(method.getName());
            }
        }
        return names;
    }

    /** Rules 1, 5 and 11. */
    private static void members(Class<?> type) {
        boolean isFace = type == SleepSteps.class;
        int fields = 0;
        for (Field field : type.getDeclaredFields()) {
            int modifiers = field.getModifiers();
            fields += Modifier.isStatic(modifiers) ? 0 : 1;
            Checks.due(field + " is final, if it is static", Modifier.isStatic(modifiers) && !Modifier.isFinal(modifiers) ? 1 : 0, 0);
            Checks.due(field + " is hidden", isPrivate(modifiers) || isFace && Modifier.isPublic(modifiers) ? 1 : 0, 1);
        }
        Checks.due(type + " has some twenty fields", fields <= 20 ? 1 : 0, 1);
        for (Method method : type.getDeclaredMethods()) {
            boolean isPublic = Modifier.isPublic(method.getModifiers());
            Checks.due(method + " is hidden", isFace && !isPublic && !isPrivate(method.getModifiers()) ? 1 : 0, 0);
            Checks.due(method + " bears its own name", !isPublic && publicNames().contains(method.getName()) ? 1 : 0, 0);
            Checks.due(method + " has few parameters", method.getParameterCount() <= 7 ? 1 : 0, 1);
        }
    }

    /** Rules 2 and 11. */
    private static void classesInside() {
        Class<?>[] inside = SleepSteps.class.getDeclaredClasses();
        Checks.due("some twelve classes", inside.length + 1 <= 12 ? 1 : 0, 1);
        for (Class<?> type : inside) {
            int modifiers = type.getModifiers();
            Checks.due(type + " is static", Modifier.isStatic(modifiers) ? 1 : 0, 1);
            Checks.due(type + " is hidden", Modifier.isPublic(modifiers) || Modifier.isProtected(modifiers) ? 1 : 0, 0);
            members(type);
        }
    }

    /** Rules 4, 6, 10 and 11, as far as the text shows them. */
    private static void source() throws IOException {
        String text = Files.readString(Path.of("src/main/java/SleepSteps.java"));
        String code = text.replaceAll("(?s)/\\*.*?\\*/", "").replaceAll("//[^\n]*", "");
        String banned = "\\b(throw|throws|try|catch|finally|synchronized|assert|package|native|volatile|transient)\\b|->|::"
                + "|\\b(equals|hashCode|toString|Exact|Random|System\\.(?!arraycopy)|Thread|Object|instanceof|double|float)\\b";
        Matcher found = Pattern.compile(banned).matcher(code);
        while (found.find()) {
            Checks.due("banned: " + found.group(), 1, 0);
        }
        Checks.due("signs are ASCII", text.chars().allMatch(c -> c < 127) ? 1 : 0, 1);
        Matcher imports = Pattern.compile("import ([^;]*);").matcher(code);
        while (imports.find()) {
            Checks.dueText("import", imports.group(1), "java.util.Arrays");
        }
        int start = 0;
        String[] lines = text.split("\n");
        for (int i = 0; i < lines.length; i++) {
            start = lines[i].matches(" {4,8}\\S.*\\) \\{") ? i : start;
            if (lines[i].matches(" {4,8}\\}")) {
                Checks.due("the method at line " + (start + 1) + " is short", i - start <= 60 ? 1 : 0, 1);
            }
        }
    }

    private static long odd(Class<?> type, Numbers numbers) {
        long value = ODD[numbers.below(ODD.length)];
        return type == int.class ? (int) value : value;
    }

    /** Every method with odd values in every state that comes: rule 7. */
    private static void noCallThrows() throws IllegalAccessException {
        Numbers numbers = new Numbers(77);
        List<Method> methods = new ArrayList<>(List.of(SleepSteps.class.getDeclaredMethods()));
        methods.removeIf(method -> !Modifier.isPublic(method.getModifiers()));
        methods.sort((one, two) -> one.getName().compareTo(two.getName()));
        for (int row = 0; row < 60; row++) {
            SleepSteps x = row % 2 == 0 ? new SleepSteps() : Checks.with("l0w0u0", "l0r0u0", "l1l0", "w1");
            for (int i = 0; i < 512; i++) {
                Method method = methods.get(numbers.below(methods.size()));
                Object[] values = new Object[method.getParameterCount()];
                for (int k = 0; k < values.length; k++) {
                    Class<?> type = method.getParameterTypes()[k];
                    long value = odd(type, numbers);
                    values[k] = type == int.class ? (Object) (int) value : (Object) value;
                }
                try {
                    method.invoke(x, values);
                } catch (InvocationTargetException thrown) {
                    Checks.due(method.getName() + Arrays.toString(values) + " throws " + thrown.getCause(), 1, 0);
                }
            }
        }
    }

    private static long bytesMade() {
        com.sun.management.ThreadMXBean bean =
                (com.sun.management.ThreadMXBean) java.lang.management.ManagementFactory.getThreadMXBean();
        return bean.getThreadAllocatedBytes(Thread.currentThread().getId());
    }

    /** Rule 12 and the room: an object is made with all its rows, and 512 of the dearest calls add nothing. */
    private static void callsMakeNothing() {
        bytesMade();
        long before = bytesMade();
        SleepSteps x = new SleepSteps();
        Checks.due("a new object is smaller than a megabyte", bytesMade() - before < 1000000 ? 1 : 0, 1);
        Checks.program(x, 0, "l0l1r0w0u1u0");
        Checks.program(x, 1, "l1l0w0r0u0u1");
        Checks.program(x, 2, "w0r1w2r3w0r1");
        Checks.program(x, 3, "r0w1r2w3r0r0");
        Checks.keep(x, "000000111111222222333333");
        Checks.write(x, "000000111111222222333333");
        before = bytesMade();
        for (int i = 0; i < 512; i++) {
            dearCall(x, i % 8);
        }
        Checks.due("512 calls make nothing", bytesMade() - before < 20000 ? 1 : 0, 1);
    }

    private static void dearCall(SleepSteps x, int which) {
        switch (which) {
            case 0: x.without(0); break;
            case 1: x.sleeping(1); break;
            case 2: x.wayToDeadlock(3); break;
            case 3: x.alikeRuns(); break;
            case 4: x.alike(); break;
            case 5: x.save(1); break;
            case 6: x.restore(1); break;
            default: x.deadlock(0, 6); break;
        }
    }
}
