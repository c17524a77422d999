import java.io.IOException;
import java.lang.reflect.Constructor;
import java.lang.reflect.Method;
import java.lang.reflect.Modifier;
import java.nio.file.Files;
import java.nio.file.Path;
import java.util.ArrayList;
import java.util.List;
import java.util.Set;
import java.util.TreeSet;

/** The face is the one of the document's code, and there is nothing beside it. */
public final class FaceTest {
    private FaceTest() {
    }

    public static void main(String[] args) throws IOException {
        Due.is(told(), FaceTest::written);
        Due.is("public final", () -> Modifier.toString(VillageFeud.class.getModifiers()));
        Due.is("VillageFeud", VillageFeud.class::getName);
        for (java.lang.reflect.Field field : VillageFeud.class.getDeclaredFields()) {
            Due.is(true, () -> Modifier.isPrivate(field.getModifiers()));
        }
        for (Class<?> inside : VillageFeud.class.getDeclaredClasses()) {
            Due.is("private static final", () -> Modifier.toString(inside.getModifiers()));
        }
        Due.end();
    }

    /** The lines of the document's code that tell a member, without "public". */
    private static Set<String> told() throws IOException {
        Set<String> told = new TreeSet<>();
        for (String line : Files.readAllLines(Path.of("../shared/DOC.md"))) {
            if (line.startsWith("    public ")) {
                told.add(line.strip().replace("public ", "").replaceAll("(int|char|boolean) \\w+([,)])", "$1$2")
                        .replace(";", ""));
            }
        }
        return told;
    }

    private static Set<String> written() {
        Set<String> written = new TreeSet<>();
        for (Constructor<?> made : VillageFeud.class.getDeclaredConstructors()) {
            if (!Modifier.isPrivate(made.getModifiers())) {
                written.add(made.getName() + list(made.getParameterTypes())
                        + thrown(made.getExceptionTypes()));
            }
        }
        for (Method method : VillageFeud.class.getDeclaredMethods()) {
            if (!Modifier.isPrivate(method.getModifiers())) {
                written.add(method.getReturnType().getName() + " " + method.getName()
                        + list(method.getParameterTypes()) + thrown(method.getExceptionTypes()));
            }
        }
        return written;
    }

    private static String list(Class<?>[] types) {
        List<String> names = new ArrayList<>();
        for (Class<?> type : types) {
            names.add(type.getSimpleName());
        }
        return "(" + String.join(", ", names) + ")";
    }

    private static String thrown(Class<?>[] types) {
        String names = list(types);
        return types.length == 0 ? "" : " throws " + names.substring(1, names.length() - 1);
    }
}
