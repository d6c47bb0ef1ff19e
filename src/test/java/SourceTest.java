import com.sun.source.tree.ClassTree;
import com.sun.source.tree.CompilationUnitTree;
import com.sun.source.tree.MethodInvocationTree;
import com.sun.source.tree.MethodTree;
import com.sun.source.tree.NewClassTree;
import com.sun.source.tree.ThrowTree;
import com.sun.source.tree.Tree;
import com.sun.source.tree.TryTree;
import com.sun.source.tree.VariableTree;
import com.sun.source.util.JavacTask;
import com.sun.source.util.SourcePositions;
import com.sun.source.util.TreeScanner;
import com.sun.source.util.Trees;
import java.io.IOException;
import java.io.UncheckedIOException;
import java.nio.charset.StandardCharsets;
import java.nio.file.Files;
import java.nio.file.Path;
import java.util.ArrayList;
import java.util.HashMap;
import java.util.HashSet;
import java.util.List;
import java.util.Map;
import java.util.Set;
import java.util.regex.Pattern;
import javax.lang.model.element.Modifier;
import javax.tools.JavaCompiler;
import javax.tools.StandardJavaFileManager;
import javax.tools.ToolProvider;

/** The rules of LANGUAGE.md that the source can break, by its lines and by its tree. */
final class SourceTest {
    private static final Path SOURCE = Path.of("src/main/java/DyeVats.java");
    private static final int MOST_DEPTH = 8;
    private static final int MOST_LINES = 60;
    private static final int MOST_PARAMETERS = 7;
    private static final int MOST_CLASSES = 12;
    private static final int MOST_FIELDS = 20;
    private static final String[] RULED_OUT = {
        "\\bimport\\b", "\\bpackage\\b", "\\bprotected\\b", "\\bsynchronized\\b", "\\bassert\\b", "\\bfinally\\b",
        "^(?!.*\\b(case|default)\\b).*->", "::", "Exact\\b", "\\bhashCode\\b", "\\bDouble\\.", "\\bFloat\\.",
        "\\bSystem\\.(?!arraycopy)", "\\bThread\\b", "\\bstatic \\{",
        "\\bstatic (?!final\\b)(int|long|boolean|String|double)\\b[^(]*[=;]",
    };
    private static final Set<String> THROWN =
        Set.of("IllegalStateException", "IllegalArgumentException", "IndexOutOfBoundsException");

    private SourceTest() { }

    static void run() {
        Check.test("nothing stands in the source that is ruled out", SourceTest::ruledOut);
        Check.test("rule 6: what is thrown, and where", SourceTest::thrown);
        Check.test("rule 11: methods are short and have few parameters", SourceTest::shortMethods);
        Check.test("rule 11: calls are at most eight deep, and none is recursion", SourceTest::depth);
        Check.test("rule 11: classes and their fields", SourceTest::classesAndFields);
    }

    private static void ruledOut() {
        for (String line : lines()) {
            for (String pattern : RULED_OUT) {
                Check.due(pattern + " in " + line, 0, Pattern.compile(pattern).matcher(line).find() ? 1 : 0);
            }
            Check.due("signs of " + line, 1, line.chars().allMatch(sign -> sign >= 32 && sign < 127) ? 1 : 0);
        }
    }

    private static void thrown() {
        for (MethodTree method : parsed().methods) {
            List<ThrowTree> throwing = new ArrayList<>();
            int[] tries = new int[1];
            new TreeScanner<Void, Void>() {
                @Override
                public Void visitThrow(ThrowTree tree, Void none) {
                    throwing.add(tree);
                    return super.visitThrow(tree, none);
                }

                @Override
                public Void visitTry(TryTree tree, Void none) {
                    tries[0]++;
                    return super.visitTry(tree, none);
                }
            }.scan(method, null);
            for (ThrowTree tree : throwing) {
                Check.due(method.getName() + " is no constructor", 0, method.getName().contentEquals("<init>") ? 1 : 0);
                Check.due(method.getName() + " throws a new one", 1, tree.getExpression() instanceof NewClassTree ? 1 : 0);
                NewClassTree made = (NewClassTree) tree.getExpression();
                Check.due(made + " may be thrown", 1, THROWN.contains(made.getIdentifier().toString()) ? 1 : 0);
                Check.due(made + " has a written text", 1, made.getArguments().stream()
                    .allMatch(text -> text.getKind() == Tree.Kind.STRING_LITERAL) ? 1 : 0);
            }
            Check.due(method.getName() + " throws and catches", 0, throwing.isEmpty() ? 0 : tries[0]);
        }
    }

    private static void shortMethods() {
        Parsed parsed = parsed();
        for (MethodTree method : parsed.methods) {
            Check.due(method.getName() + " has few lines", 1, parsed.linesOf(method) <= MOST_LINES ? 1 : 0);
            Check.due(method.getName() + " has few parameters", 1, method.getParameters().size() <= MOST_PARAMETERS ? 1 : 0);
        }
    }

    private static void depth() {
        Map<String, Set<String>> calls = new HashMap<>();
        for (MethodTree method : parsed().methods) {
            if (!method.getName().contentEquals("<init>")) {
                // Calls are told by their names, so each name may stand for one method alone.
                Check.due(method.getName() + " is the only one", 0, calls.containsKey(method.getName().toString()) ? 1 : 0);
                calls.put(method.getName().toString(), calledBy(method));
            }
        }
        for (String name : calls.keySet()) {
            Check.due(name + " is at most eight deep", 1, depthOf(name, calls, new HashSet<>()) <= MOST_DEPTH ? 1 : 0);
        }
    }

    private static int depthOf(String name, Map<String, Set<String>> calls, Set<String> open) {
        Check.due(name + " calls itself", 1, open.add(name) ? 1 : 0);
        int deepest = 0;
        for (String called : calls.get(name)) {
            if (calls.containsKey(called)) {
                deepest = Math.max(deepest, depthOf(called, calls, open));
            }
        }
        open.remove(name);
        return deepest + 1;
    }

    private static Set<String> calledBy(MethodTree method) {
        Set<String> called = new HashSet<>();
        new TreeScanner<Void, Void>() {
            @Override
            public Void visitMethodInvocation(MethodInvocationTree tree, Void none) {
                String whole = tree.getMethodSelect().toString();
                called.add(whole.substring(whole.lastIndexOf('.') + 1));
                return super.visitMethodInvocation(tree, none);
            }
        }.scan(method, null);
        return called;
    }

    private static void classesAndFields() {
        List<ClassTree> classes = parsed().classes;
        Check.due("few classes", 1, classes.size() <= MOST_CLASSES ? 1 : 0);
        for (ClassTree one : classes) {
            int fields = 0;
            for (Tree member : one.getMembers()) {
                if (member instanceof VariableTree field) {
                    Set<Modifier> flags = field.getModifiers().getFlags();
                    Check.due(field.getName() + " is no static state", 1,
                        !flags.contains(Modifier.STATIC) || flags.contains(Modifier.FINAL) ? 1 : 0);
                    fields += flags.contains(Modifier.STATIC) ? 0 : 1;
                }
            }
            Check.due(one.getSimpleName() + " has few fields", 1, fields <= MOST_FIELDS ? 1 : 0);
        }
    }

    private static List<String> lines() {
        try {
            return Files.readAllLines(SOURCE, StandardCharsets.ISO_8859_1);
        } catch (IOException e) {
            throw new UncheckedIOException(e);
        }
    }

    private static Parsed parsed() {
        JavaCompiler compiler = ToolProvider.getSystemJavaCompiler();
        try (StandardJavaFileManager files = compiler.getStandardFileManager(null, null, StandardCharsets.ISO_8859_1)) {
            JavacTask task = (JavacTask) compiler.getTask(null, files, null, null, null, files.getJavaFileObjects(SOURCE));
            return new Parsed(task.parse().iterator().next(), Trees.instance(task).getSourcePositions());
        } catch (IOException e) {
            throw new UncheckedIOException(e);
        }
    }

    /** The classes and the methods of the source, those of the classes inside too. */
    private static final class Parsed {
        final List<ClassTree> classes = new ArrayList<>();
        final List<MethodTree> methods = new ArrayList<>();
        private final CompilationUnitTree unit;
        private final SourcePositions positions;

        Parsed(CompilationUnitTree unit, SourcePositions positions) {
            this.unit = unit;
            this.positions = positions;
            new TreeScanner<Void, Void>() {
                @Override
                public Void visitClass(ClassTree tree, Void none) {
                    classes.add(tree);
                    return super.visitClass(tree, none);
                }

                @Override
                public Void visitMethod(MethodTree tree, Void none) {
                    methods.add(tree);
                    return super.visitMethod(tree, none);
                }
            }.scan(unit, null);
        }

        long linesOf(MethodTree method) {
            return unit.getLineMap().getLineNumber(positions.getEndPosition(unit, method))
                - unit.getLineMap().getLineNumber(positions.getStartPosition(unit, method)) + 1;
        }
    }
}
