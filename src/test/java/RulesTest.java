import com.sun.source.tree.CatchTree;
import com.sun.source.tree.ClassTree;
import com.sun.source.tree.CompilationUnitTree;
import com.sun.source.tree.IdentifierTree;
import com.sun.source.tree.MemberSelectTree;
import com.sun.source.tree.MethodInvocationTree;
import com.sun.source.tree.MethodTree;
import com.sun.source.tree.Tree;
import com.sun.source.tree.VariableTree;
import com.sun.source.util.JavacTask;
import com.sun.source.util.SourcePositions;
import com.sun.source.util.TreeScanner;
import com.sun.source.util.Trees;
import java.io.DataInputStream;
import java.io.IOException;
import java.io.InputStream;
import java.nio.file.Files;
import java.nio.file.Path;
import java.util.EnumSet;
import java.util.HashMap;
import java.util.HashSet;
import java.util.List;
import java.util.Map;
import java.util.Set;
import java.util.TreeSet;
import javax.lang.model.element.Modifier;
import javax.tools.JavaCompiler;
import javax.tools.StandardJavaFileManager;
import javax.tools.ToolProvider;

/** The rules of LANGUAGE.md that can be read from the source and from what the compiler makes. */
public final class RulesTest {
    private static final Path SOURCE = Path.of("src/main/java/VillageFeud.java");
    private static final Set<Tree.Kind> FORBIDDEN = EnumSet.of(
            Tree.Kind.LAMBDA_EXPRESSION, Tree.Kind.MEMBER_REFERENCE, Tree.Kind.SYNCHRONIZED,
            Tree.Kind.ASSERT, Tree.Kind.TRY, Tree.Kind.TYPE_CAST, Tree.Kind.INSTANCE_OF,
            Tree.Kind.WHILE_LOOP, Tree.Kind.DO_WHILE_LOOP);
    private static final Set<String> LIBRARY = Set.of(
            "java/lang/Object.<init>", "java/lang/Math.min", "java/lang/Math.max",
            "java/lang/Integer.bitCount", "java/lang/System.arraycopy",
            "java/lang/String.length", "java/lang/String.charAt", "java/lang/String.isEmpty",
            "java/lang/StringBuilder.<init>", "java/lang/StringBuilder.append",
            "java/lang/StringBuilder.charAt", "java/lang/StringBuilder.length",
            "java/lang/StringBuilder.setLength",
            "java/lang/IllegalStateException.<init>", "java/lang/IllegalArgumentException.<init>",
            "java/lang/IndexOutOfBoundsException.<init>", "java/lang/ArithmeticException.<init>",
            "java/lang/UnsupportedOperationException.<init>",
            "java/util/NoSuchElementException.<init>");

    private final Map<String, Set<String>> calls = new HashMap<>();
    private final Set<String> publicNames = new HashSet<>();
    private final Set<String> otherNames = new HashSet<>();
    private final Set<String> faults = new TreeSet<>();
    private CompilationUnitTree unit;
    private SourcePositions positions;
    private int classes = 0;

    public static void main(String[] args) throws IOException {
        RulesTest test = new RulesTest();
        test.readSource();
        test.readClasses();
        for (String name : test.publicNames) {
            Due.is(true, () -> test.depthOf(name, 0) <= 8);
            Due.is(false, () -> test.otherNames.contains(name));
        }
        Due.is(true, () -> test.classes <= 12);
        Due.is(List.of(), () -> List.copyOf(test.faults));
        Due.end();
    }

    private void readSource() throws IOException {
        JavaCompiler compiler = ToolProvider.getSystemJavaCompiler();
        try (StandardJavaFileManager files = compiler.getStandardFileManager(null, null, null)) {
            JavacTask task = (JavacTask) compiler.getTask(null, files, null, null, null,
                    files.getJavaFileObjects(SOURCE.toFile()));
            positions = Trees.instance(task).getSourcePositions();
            for (CompilationUnitTree each : task.parse()) {
                unit = each;
                new Scanner().scan(each, null);
            }
        }
        String source = Files.readString(SOURCE);
        Due.is(true, () -> source.chars().allMatch(sign -> sign < 127));
        Due.is("[import java.util.NoSuchElementException;]",
                () -> source.lines().filter(line -> line.startsWith("import")).toList());
    }

    private long lineOf(long position) {
        return unit.getLineMap().getLineNumber(position);
    }

    private long linesOf(Tree tree) {
        return lineOf(positions.getEndPosition(unit, tree))
                - lineOf(positions.getStartPosition(unit, tree)) + 1;
    }

    private void fault(Tree tree, String rule) {
        faults.add(rule + " in line " + lineOf(positions.getStartPosition(unit, tree)));
    }

    /** The longest chain of calls that begins with a method, where one name counts as one method. */
    private int depthOf(String name, int above) {
        if (above > 20) {
            return above;
        }
        int deepest = 0;
        for (String called : calls.getOrDefault(name, Set.of())) {
            if (calls.containsKey(called)) {
                deepest = Math.max(deepest, depthOf(called, above + 1));
            }
        }
        return deepest + 1;
    }

    private final class Scanner extends TreeScanner<Void, Void> {
        private String method = "";

        @Override
        public Void scan(Tree tree, Void nothing) {
            if (tree != null && FORBIDDEN.contains(tree.getKind())
                    && !(tree.getKind() == Tree.Kind.TYPE_CAST && isOfNumbers(tree))) {
                fault(tree, tree.getKind().name());
            }
            return super.scan(tree, nothing);
        }

        private boolean isOfNumbers(Tree tree) {
            return tree.toString().startsWith("(double)") || tree.toString().startsWith("(float)");
        }

        @Override
        public Void visitClass(ClassTree tree, Void nothing) {
            classes++;
            int fields = 0;
            for (Tree member : tree.getMembers()) {
                if (member instanceof VariableTree field) {
                    boolean isConstant = field.getModifiers().getFlags().contains(Modifier.STATIC);
                    fields += isConstant ? 0 : 1;
                    if (isConstant && !field.getModifiers().getFlags().contains(Modifier.FINAL)) {
                        fault(field, "static state");
                    }
                }
            }
            if (fields > 20) {
                fault(tree, "more than 20 fields");
            }
            return super.visitClass(tree, nothing);
        }

        @Override
        public Void visitMethod(MethodTree tree, Void nothing) {
            method = tree.getName().toString();
            boolean isPublic = tree.getModifiers().getFlags().contains(Modifier.PUBLIC);
            (isPublic ? publicNames : otherNames).add(method);
            calls.computeIfAbsent(method, name -> new HashSet<>());
            if (linesOf(tree) > 50) {
                fault(tree, "a long method");
            }
            if (tree.getParameters().size() > 7) {
                fault(tree, "too many parameters");
            }
            otherNames.remove("<init>");
            publicNames.remove("<init>");
            return super.visitMethod(tree, nothing);
        }

        @Override
        public Void visitMethodInvocation(MethodInvocationTree tree, Void nothing) {
            Tree called = tree.getMethodSelect();
            String name = called instanceof MemberSelectTree member
                    ? member.getIdentifier().toString()
                    : ((IdentifierTree) called).getName().toString();
            boolean isLibrary = called instanceof MemberSelectTree member
                    && Set.of("line", "signs", "form", "Math", "Integer", "System")
                            .contains(member.getExpression().toString());
            if (!isLibrary) {
                calls.computeIfAbsent(method, key -> new HashSet<>()).add(name);
            }
            return super.visitMethodInvocation(tree, nothing);
        }

        /** LANGUAGE.md lists functions of the library alone, and the compiler copies its constants. */
        @Override
        public Void visitMemberSelect(MemberSelectTree tree, Void nothing) {
            if (tree.getIdentifier().toString().matches("[A-Z_]+")) {
                fault(tree, "a constant of another class");
            }
            return super.visitMemberSelect(tree, nothing);
        }

        @Override
        public Void visitCatch(CatchTree tree, Void nothing) {
            fault(tree, "a catch");
            return super.visitCatch(tree, nothing);
        }
    }

    /** Every library method that a class of the program names stands in its constants. */
    private void readClasses() throws IOException {
        readClass("VillageFeud");
        for (Class<?> inside : VillageFeud.class.getDeclaredClasses()) {
            readClass(inside.getName());
        }
    }

    private void readClass(String name) throws IOException {
        try (InputStream stream = VillageFeud.class.getResourceAsStream(name + ".class");
                DataInputStream data = new DataInputStream(stream)) {
            data.readInt();
            data.readInt();
            int count = data.readUnsignedShort();
            String[] texts = new String[count];
            int[][] links = new int[count][];
            for (int index = 1; index < count; index++) {
                int tag = data.readUnsignedByte();
                if (tag == 1) {
                    texts[index] = data.readUTF();
                } else if (tag == 7 || tag == 8 || tag == 16 || tag == 19 || tag == 20) {
                    links[index] = new int[] {tag, data.readUnsignedShort()};
                } else if (tag == 15) {
                    data.readUnsignedByte();
                    data.readUnsignedShort();
                } else {
                    links[index] = new int[] {tag, data.readUnsignedShort(), data.readUnsignedShort()};
                }
                if (tag == 5 || tag == 6) {
                    data.readInt();
                    index++;
                }
            }
            checkLinks(texts, links);
        }
    }

    private void checkLinks(String[] texts, int[][] links) {
        for (int[] link : links) {
            if (link != null && (link[0] == 17 || link[0] == 18)) {
                faults.add("a dynamic call");
            }
            if (link != null && (link[0] == 10 || link[0] == 11)) {
                String owner = texts[links[link[1]][1]];
                String called = owner + "." + texts[links[link[2]][1]];
                if (!owner.startsWith("VillageFeud") && !LIBRARY.contains(called)) {
                    faults.add(called);
                }
            }
        }
    }
}
