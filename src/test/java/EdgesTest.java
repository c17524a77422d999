import java.lang.reflect.InvocationTargetException;
import java.lang.reflect.Method;
import java.lang.reflect.Modifier;
import java.util.ArrayList;
import java.util.Arrays;
import java.util.List;
import java.util.Map;
import java.util.TreeMap;

/**
 * Every method that takes numbers, with numbers at and beyond every edge, in villages that are
 * empty, small, parted and full, and as the model answers: too small, too large, and where a shift
 * or a product of ints would wrap around.
 */
public final class EdgesTest {
    private static final int[] EDGES = {
        Integer.MIN_VALUE, -512, -32, -2, -1, 0, 1, 2, 3, 4, 5, 6, 7, 8, 9, 10, 11, 31, 32, 36, 64,
        100, 256, 511, 512, 1 << 28, 1 << 30, 477218589, Integer.MAX_VALUE,
    };
    private static final int[] FEW = {
        Integer.MIN_VALUE, -1, 0, 1, 2, 3, 8, 9, 32, 99, 100, 477218589, Integer.MAX_VALUE,
    };
    private static final Map<String, Method> PROGRAM = methodsOf(VillageFeud.class);
    private static final Map<String, Method> MODEL = methodsOf(Model.class);
    private static final List<Object[]> EMPTY = List.of();
    private static final List<Object[]> LONELY = List.<Object[]>of(new Object[] {"household"});

    private int asked = 0;
    private int wrong = 0;

    public static void main(String[] args) throws ReflectiveOperationException {
        EdgesTest test = new EdgesTest();
        for (List<Object[]> calls : List.of(EMPTY, LONELY, two(), ring(), full(9), refused())) {
            for (Method method : PROGRAM.values()) {
                test.atEdges(calls, method);
            }
        }
        System.out.println(test.asked + " asked, " + test.wrong + " wrong");
        if (test.wrong != 0 || test.asked < 10000) {
            System.exit(1);
        }
    }

    private static List<Object[]> two() {
        List<Object[]> calls = households(2);
        calls.add(new Object[] {"bond", 0, 1, 99});
        calls.add(new Object[] {"stand", 1, 1});
        return calls;
    }

    private static List<Object[]> ring() {
        List<Object[]> calls = households(4);
        for (int[] bond : new int[][] {{0, 1, 5}, {1, 2, 3}, {2, 3, 4}, {0, 3, 2}}) {
            calls.add(new Object[] {"bond", bond[0], bond[1], bond[2]});
        }
        calls.add(new Object[] {"part"});
        calls.add(new Object[] {"tell"});
        calls.add(new Object[] {"save"});
        return calls;
    }

    private static List<Object[]> full(int size) {
        List<Object[]> calls = households(size);
        for (int one = 0; one < size; one++) {
            for (int other = one + 1; other < size; other++) {
                calls.add(new Object[] {"bond", one, other, 1 + (7 * one + 3 * other) % 9});
            }
        }
        calls.add(new Object[] {"stand", 3, 1});
        return calls;
    }

    /** A full village with a refused run, a full input, and nothing that can be undone. */
    private static List<Object[]> refused() {
        List<Object[]> calls = households(9);
        for (char sign : "go 0;bond 0 8 5".toCharArray()) {
            calls.add(new Object[] {"append", sign});
        }
        calls.add(new Object[] {"run"});
        calls.add(new Object[] {"save"});
        calls.add(new Object[] {"restore"});
        for (int length = 0; length < 60; length++) {
            calls.add(new Object[] {"append", ';'});
        }
        return calls;
    }

    private static List<Object[]> households(int size) {
        List<Object[]> calls = new ArrayList<>();
        for (int household = 0; household < size; household++) {
            calls.add(new Object[] {"household"});
        }
        return calls;
    }

    private void atEdges(List<Object[]> calls, Method method) throws ReflectiveOperationException {
        List<Object[]> arguments = new ArrayList<>();
        arguments.add(new Object[0]);
        for (Class<?> type : method.getParameterTypes()) {
            List<Object[]> longer = new ArrayList<>();
            for (Object[] before : arguments) {
                for (Object value : valuesOf(type, method.getParameterCount())) {
                    Object[] then = Arrays.copyOf(before, before.length + 1);
                    then[before.length] = value;
                    longer.add(then);
                }
            }
            arguments = longer;
        }
        for (Object[] each : arguments) {
            ask(calls, method, each);
        }
    }

    private static List<Object> valuesOf(Class<?> type, int parameters) {
        List<Object> values = new ArrayList<>();
        if (type == boolean.class) {
            values.addAll(List.of(true, false));
        } else if (type == char.class) {
            for (int code = 0; code <= 300; code++) {
                values.add((char) code);
            }
            values.addAll(List.of((char) 32767, (char) 32768, (char) 65535));
        } else {
            for (int value : parameters > 2 ? FEW : EDGES) {
                values.add(value);
            }
        }
        return values;
    }

    private void ask(List<Object[]> calls, Method method, Object[] arguments)
            throws ReflectiveOperationException {
        VillageFeud village = new VillageFeud();
        Model model = new Model();
        for (Object[] call : calls) {
            Object[] rest = Arrays.copyOfRange(call, 1, call.length);
            answer(village, (String) call[0], rest);
            answer(model, (String) call[0], rest);
        }
        String got = answer(village, method.getName(), arguments);
        String due = answer(model, method.getName(), arguments);
        asked++;
        String gotThen = reasonsOf(village);
        String dueThen = reasonsOf(model);
        if (!got.equals(due) || !gotThen.equals(dueThen)) {
            wrong++;
            System.out.println(calls.size() + " calls, then " + method.getName()
                    + Arrays.toString(arguments) + " answered " + got + gotThen
                    + ", due is " + due + dueThen);
        }
    }

    private static String reasonsOf(Object object) throws ReflectiveOperationException {
        StringBuilder reasons = new StringBuilder();
        for (int depth = 0; depth <= 1; depth++) {
            reasons.append(' ').append(answer(object, "reason", depth, false));
            reasons.append(' ').append(answer(object, "reason", depth, true));
        }
        return reasons.append(' ').append(answer(object, "account", 10)).toString();
    }

    private static Map<String, Method> methodsOf(Class<?> type) {
        Map<String, Method> methods = new TreeMap<>();
        for (Method method : type.getDeclaredMethods()) {
            if (Modifier.isPublic(method.getModifiers())) {
                methods.put(method.getName(), method);
            }
        }
        return methods;
    }

    private static String answer(Object object, String name, Object... arguments)
            throws ReflectiveOperationException {
        boolean isProgram = object instanceof VillageFeud;
        Method method = (isProgram ? PROGRAM : MODEL).get(name);
        try {
            return String.valueOf(method.invoke(object, arguments));
        } catch (InvocationTargetException wrapped) {
            RuntimeException thrown = (RuntimeException) wrapped.getCause();
            boolean isForeign = isProgram && !Due.isOwn(thrown);
            return "throws " + thrown.getClass().getName() + (isForeign ? " by the machine" : "");
        }
    }
}
