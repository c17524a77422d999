import java.lang.reflect.InvocationTargetException;
import java.lang.reflect.Method;
import java.util.ArrayList;
import java.util.Arrays;
import java.util.Comparator;
import java.util.List;
import java.util.Map;
import java.util.TreeMap;

/** Long runs of calls of all kinds, each answered by the program and by the model. */
public final class ModelTest {
    private static final int RUNS = 400;
    private static final int CALLS = 512;
    private static final String[] ORDERS = {"house", "go #", "bond # # %", "loose # #",
        "marry # #", "side # !", "part"};

    private final Map<String, Method> modelMethods = new TreeMap<>();
    private final List<Method> methods = new ArrayList<>();
    private final Map<String, Integer> answers = new TreeMap<>();
    private long seed;
    private int heaviest;
    private int wrong;

    public static void main(String[] args) throws ReflectiveOperationException {
        ModelTest test = new ModelTest();
        test.findMethods();
        for (int run = 0; run < RUNS && test.wrong == 0; run++) {
            test.run(run);
        }
        test.tellRare();
        System.out.println(RUNS + " runs, " + test.wrong + " wrong");
        if (test.wrong != 0) {
            System.exit(1);
        }
    }

    private void findMethods() throws ReflectiveOperationException {
        for (Method method : VillageFeud.class.getDeclaredMethods()) {
            if (java.lang.reflect.Modifier.isPublic(method.getModifiers())) {
                methods.add(method);
                modelMethods.put(method.getName(),
                        Model.class.getMethod(method.getName(), method.getParameterTypes()));
            }
        }
        methods.sort(Comparator.comparing(Method::getName));
    }

    /** A plain chain of numbers, so that each run of the test asks the same. */
    private int below(int bound) {
        seed = seed * 6364136223846793005L + 1442695040888963407L;
        return (int) ((seed >>> 33) % bound);
    }

    private void run(int run) throws ReflectiveOperationException {
        seed = run * 7919L + 17;
        heaviest = new int[] {1, 2, 5, 30, 99}[below(5)];
        int most = 1 + below(9);
        VillageFeud village = new VillageFeud();
        Model model = new Model();
        List<String> told = new ArrayList<>();
        int call = 0;
        while (call < CALLS && wrong == 0) {
            int size = model.account(0);
            if (below(12) == 0) {
                for (char sign : text(size).toCharArray()) {
                    call = ask(village, model, told, call, "append", sign);
                }
                call = ask(village, model, told, call, "run");
            } else if (size < most && below(3) == 0) {
                call = ask(village, model, told, call, "household");
            } else if (below(3) == 0) {
                call = ask(village, model, told, call, "bond", household(size), household(size),
                        weight());
            } else {
                Method method = methods.get(below(methods.size()));
                boolean isRare = List.of("leave", "restore", "marry").contains(method.getName());
                if (!isRare || below(4) == 0) {
                    call = ask(village, model, told, call, method.getName(), some(method, size));
                }
            }
        }
    }

    private int household(int size) {
        int dice = below(40);
        if (dice == 0) {
            return size;
        }
        if (dice == 1) {
            return new int[] {-1, 9, 10, 31, 32, Integer.MAX_VALUE, Integer.MIN_VALUE}[below(7)];
        }
        return size == 0 ? 0 : below(size);
    }

    private int weight() {
        int dice = below(30);
        return dice == 0 ? 0 : dice == 1 ? 100 : 1 + below(heaviest);
    }

    private String text(int size) {
        StringBuilder text = new StringBuilder();
        int orders = 1 + below(6);
        for (int order = 0; order < orders; order++) {
            text.append(order == 0 ? "" : ";").append(filled(ORDERS[below(ORDERS.length)], size));
        }
        if (below(6) == 0) {
            text.setCharAt(below(text.length()), (char) (32 + below(95)));
        }
        if (below(8) == 0) {
            text.setLength(below(text.length() + 1));
        }
        return text.toString();
    }

    private String filled(String form, int size) {
        StringBuilder filled = new StringBuilder();
        for (char mark : form.toCharArray()) {
            if (mark == '#') {
                filled.append(below(20) == 0 ? 9 : size == 0 ? 0 : below(size));
            } else if (mark == '%') {
                filled.append(below(3) == 0 ? below(100) : 1 + below(heaviest));
            } else if (mark == '!') {
                filled.append(below(10) == 0 ? 2 : below(2));
            } else {
                filled.append(mark);
            }
        }
        return filled.toString();
    }

    private Object[] some(Method method, int size) {
        String name = method.getName();
        Class<?>[] types = method.getParameterTypes();
        Object[] some = new Object[types.length];
        for (int k = 0; k < types.length; k++) {
            if (types[k] == boolean.class) {
                some[k] = below(2) == 0;
            } else if (types[k] == char.class) {
                some[k] = (char) (below(10) == 0 ? below(65536) : 28 + below(103));
            } else if (k == 2) {
                some[k] = weight();
            } else if (name.equals("tied")) {
                some[k] = below(20) == 0 ? household(9) : below(1 << size) & below(1 << size);
            } else if (name.equals("account") || name.equals("character") || name.equals("bondAt")) {
                some[k] = below(13) - 1;
            } else if (name.equals("reason")) {
                some[k] = below(4) - 1;
            } else if (name.equals("stand") && k == 1) {
                some[k] = below(20) == 0 ? household(2) : below(2);
            } else if (name.equals("householdOf") && k == 1 || name.equals("phaseOf") && k == 1) {
                some[k] = below(8) - 1;
            } else if (name.equals("ranked") && k == 0) {
                some[k] = below(6) - 1;
            } else {
                some[k] = household(size);
            }
        }
        return some;
    }

    private int ask(VillageFeud village, Model model, List<String> told, int call, String name,
            Object... arguments) throws ReflectiveOperationException {
        if (call >= CALLS || wrong > 0) {
            return call;
        }
        Method method = methodOf(name);
        String got = answer(method, village, arguments);
        String due = answer(modelMethods.get(name), model, arguments);
        String of = due.startsWith("throws") ? due : "an answer";
        answers.merge(name + " " + of, 1, Integer::sum);
        told.add(name + Arrays.toString(arguments) + " answered " + got);
        if (!got.equals(due)) {
            wrong++;
            told.forEach(System.out::println);
            System.out.println("due is " + due);
        }
        return call + 1;
    }

    private Method methodOf(String name) {
        return methods.stream().filter(each -> each.getName().equals(name)).findFirst().get();
    }

    private String answer(Method method, Object object, Object[] arguments)
            throws ReflectiveOperationException {
        try {
            Object answer = method.invoke(object, arguments);
            return answer instanceof Character sign ? "sign " + (int) sign : String.valueOf(answer);
        } catch (InvocationTargetException wrapped) {
            RuntimeException thrown = (RuntimeException) wrapped.getCause();
            boolean isForeign = object instanceof VillageFeud && !Due.isOwn(thrown);
            return "throws " + thrown.getClass().getName() + (isForeign ? " by the machine" : "");
        }
    }

    /** Each method has to have answered, and to have thrown each of its exceptions, often enough. */
    private void tellRare() {
        for (Method method : methods) {
            isAsked(method.getName() + " an answer");
            for (Class<?> thrown : method.getExceptionTypes()) {
                isAsked(method.getName() + " throws " + thrown.getName());
            }
        }
    }

    private void isAsked(String answer) {
        if (wrong == 0 && answers.getOrDefault(answer, 0) < 5) {
            wrong++;
            System.out.println("too rare: " + answer + ": " + answers.getOrDefault(answer, 0));
        }
    }
}
