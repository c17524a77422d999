import java.io.IOException;
import java.lang.reflect.Method;
import java.lang.reflect.Modifier;
import java.net.URL;
import java.net.URLClassLoader;
import java.nio.file.DirectoryStream;
import java.nio.file.Files;
import java.nio.file.Path;
import java.util.ArrayList;
import java.util.List;
import java.util.Set;
import java.util.TreeSet;
import java.util.regex.Matcher;
import java.util.regex.Pattern;
import javax.tools.ToolProvider;

/** README.md is true: its examples are compiled and run, and its tables name all that is there. */
public final class ReadmeTest {
    private static final Pattern BLOCK = Pattern.compile("```java\n(.*?)```", Pattern.DOTALL);
    private static final Pattern ASKED = Pattern.compile("(.*\\));\\s+// (.*)");
    private static final Pattern LINE = Pattern.compile("\\d+: (.*)");
    private static final Pattern NAME = Pattern.compile("`(\\w+)`");
    private static final String HEAD = """
            import java.util.ArrayList;
            import java.util.List;
            public final class Readme {
                static List<String> answers = new ArrayList<>();
                interface Call { Object answer(); }
                static void ask(Call call) {
                    try {
                        Object answer = call.answer();
                        answers.add(answer instanceof Character ? "'" + answer + "'" : "" + answer);
                    } catch (RuntimeException thrown) {
                        answers.add("throws " + thrown.getClass().getSimpleName());
                    }
                }
                static void line(VillageFeud village, int length) {
                    StringBuilder line = new StringBuilder();
                    for (int index = 0; index < length; index++) {
                        line.append(village.character(index));
                    }
                    answers.add(line.toString());
                }
                public static List<String> tell() {
            """;

    private final List<String> due = new ArrayList<>();

    private ReadmeTest() {
    }

    public static void main(String[] args) throws IOException, ReflectiveOperationException {
        String readme = Files.readString(Path.of("README.md"));
        ReadmeTest test = new ReadmeTest();
        List<String> got = test.run(test.programOf(readme));
        Due.is(test.due, () -> got);
        Due.is(true, () -> test.due.size() > 40);
        Due.is(publicMethods(), () -> firstNames(readme, "| for | calls |"));
        Due.is(tests(), () -> firstNames(readme, "| test | promises |"));
        Due.end();
    }

    /** The examples one after the other, where what stands behind a call is what is due. */
    private String programOf(String readme) {
        StringBuilder program = new StringBuilder(HEAD);
        Matcher blocks = BLOCK.matcher(readme);
        while (blocks.find()) {
            blocks.group(1).lines().forEach(line -> program.append(checked(line)).append('\n'));
        }
        return program.append("return answers; } }").toString();
    }

    private String checked(String line) {
        Matcher asked = ASKED.matcher(line);
        if (!asked.matches()) {
            return line;
        }
        String answer = asked.group(2);
        due.add(answer.replaceFirst("[:,].*", ""));
        String check = "ask(() -> " + asked.group(1) + ");";
        Matcher written = LINE.matcher(answer);
        if (written.matches()) {
            due.add(written.group(1));
            return check + " line(village, " + due.get(due.size() - 2) + ");";
        }
        return check;
    }

    private List<String> run(String program) throws IOException, ReflectiveOperationException {
        Path folder = Files.createTempDirectory("readme");
        Path source = folder.resolve("Readme.java");
        Files.writeString(source, program);
        String here = System.getProperty("java.class.path");
        int fault = ToolProvider.getSystemJavaCompiler().run(null, null, null,
                "-cp", here, "-d", folder.toString(), source.toString());
        Due.is(0, () -> fault);
        List<String> answers = new ArrayList<>();
        try (URLClassLoader loader = new URLClassLoader(new URL[] {folder.toUri().toURL()})) {
            Object told = loader.loadClass("Readme").getMethod("tell").invoke(null);
            for (Object answer : (List<?>) told) {
                answers.add(String.valueOf(answer));
            }
        }
        remove(folder);
        return answers;
    }

    private static void remove(Path folder) throws IOException {
        try (DirectoryStream<Path> files = Files.newDirectoryStream(folder)) {
            for (Path file : files) {
                Files.delete(file);
            }
        }
        Files.delete(folder);
    }

    private static Set<String> publicMethods() {
        Set<String> names = new TreeSet<>();
        for (Method method : VillageFeud.class.getDeclaredMethods()) {
            if (Modifier.isPublic(method.getModifiers())) {
                names.add(method.getName());
            }
        }
        return names;
    }

    private static Set<String> tests() throws IOException {
        Set<String> names = new TreeSet<>();
        try (DirectoryStream<Path> files =
                Files.newDirectoryStream(Path.of("src/test/java"), "*Test.java")) {
            for (Path file : files) {
                names.add(file.getFileName().toString().replace(".java", ""));
            }
        }
        return names;
    }

    /** The names in a table, which ends with an empty line, but for those that tell of others. */
    private static Set<String> firstNames(String readme, String head) {
        Set<String> names = new TreeSet<>();
        String table = readme.substring(readme.indexOf(head) + head.length());
        for (String row : table.substring(0, table.indexOf("\n\n")).split("\n")) {
            Matcher name = NAME.matcher(row);
            while (name.find()) {
                names.add(name.group(1));
            }
        }
        names.remove("Model");
        return names;
    }
}
