import com.sun.source.tree.ClassTree;
import com.sun.source.tree.CompilationUnitTree;
import com.sun.source.tree.ForLoopTree;
import com.sun.source.tree.LineMap;
import com.sun.source.tree.MethodInvocationTree;
import com.sun.source.tree.MethodTree;
import com.sun.source.tree.NewArrayTree;
import com.sun.source.tree.NewClassTree;
import com.sun.source.tree.Tree;
import com.sun.source.tree.VariableTree;
import com.sun.source.tree.WhileLoopTree;
import com.sun.source.util.JavacTask;
import com.sun.source.util.TreePathScanner;
import com.sun.source.util.Trees;
import java.io.IOException;
import java.lang.reflect.Array;
import java.lang.reflect.Field;
import java.nio.file.Path;
import java.util.ArrayList;
import java.util.EnumSet;
import java.util.LinkedHashMap;
import java.util.LinkedHashSet;
import java.util.List;
import java.util.Map;
import java.util.Set;
import javax.lang.model.element.Element;
import javax.lang.model.element.ElementKind;
import javax.lang.model.element.Modifier;
import javax.tools.JavaCompiler;
import javax.tools.StandardJavaFileManager;
import javax.tools.ToolProvider;

/**
 * The rules of LANGUAGE.md that can be looked up in the source, read by the compiler itself. Where
 * the program needs less than a rule allows, no more is allowed here.
 */
public final class LanguageTest {
    private static final Path SOURCE = Path.of("src/main/java/FactorBranches.java");
    private static final Set<String> TYPES = Set.of("int", "boolean", "int[]", "int[][]",
        "History", "Pad", "Text", "Sweep", "Classes", "Beginnings");
    private static final Set<String> LIBRARY = Set.of("java.lang.Math.max", "java.lang.Math.min", "java.lang.Integer.bitCount");
    private static final int MOST_CLASSES = 12, MOST_FIELDS = 20, MOST_PARAMETERS = 7, MOST_LINES = 60, MOST_DEPTH = 8;
    /** The room of one run takes some 600,000 objects and 7.3 million fields and elements: hundreds of objects of the program. */
    private static final int MOST_OBJECTS = 200, MOST_ELEMENTS = 10_000;

    /** Rules 2, 6, 7 and 10: what the source may not have, or does without. */
    private static final Set<Tree.Kind> BARRED = EnumSet.of(Tree.Kind.LAMBDA_EXPRESSION, Tree.Kind.MEMBER_REFERENCE,
        Tree.Kind.THROW, Tree.Kind.TRY, Tree.Kind.CATCH, Tree.Kind.SYNCHRONIZED, Tree.Kind.ASSERT, Tree.Kind.INSTANCE_OF,
        Tree.Kind.TYPE_CAST, Tree.Kind.DIVIDE, Tree.Kind.REMAINDER, Tree.Kind.DIVIDE_ASSIGNMENT,
        Tree.Kind.REMAINDER_ASSIGNMENT, Tree.Kind.IMPORT, Tree.Kind.PACKAGE, Tree.Kind.STRING_LITERAL,
        Tree.Kind.NULL_LITERAL, Tree.Kind.SWITCH_EXPRESSION, Tree.Kind.DO_WHILE_LOOP, Tree.Kind.ENUM, Tree.Kind.INTERFACE,
        Tree.Kind.RECORD, Tree.Kind.ANNOTATION, Tree.Kind.PARAMETERIZED_TYPE);

    private static final List<String> faults = new ArrayList<>();
    private static int objects = 0;
    private static int elements = 0;

    public static void main(String[] args) throws IOException, IllegalAccessException {
        JavaCompiler compiler = ToolProvider.getSystemJavaCompiler();
        try (StandardJavaFileManager files = compiler.getStandardFileManager(null, null, null)) {
            JavacTask task = (JavacTask) compiler.getTask(null, files, null, List.of("-proc:none"), null,
                files.getJavaFileObjects(SOURCE));
            CompilationUnitTree unit = task.parse().iterator().next();
            task.analyze();
            Reader reader = new Reader(Trees.instance(task), unit);
            reader.scan(unit, null);
            checkCalls(reader);
        }
        countRoom(new FactorBranches());
        must(objects <= MOST_OBJECTS && elements <= MOST_ELEMENTS, "rule 12: " + objects + " objects, " + elements + " elements");
        for (String fault : faults) System.out.println(fault);
        System.out.println(faults.size() + " faults against the rules of the language");
        if (!faults.isEmpty()) System.exit(1);
    }

    private static void must(boolean holds, String fault) {
        if (!holds) faults.add(fault);
    }

    /** Rules 1, 8 and 11: names, recursion and depth, when all methods have been read. */
    private static void checkCalls(Reader reader) {
        must(reader.classes <= MOST_CLASSES, "rule 11: " + reader.classes + " classes");
        for (Element method : reader.calls.keySet()) {
            boolean open = method.getModifiers().contains(Modifier.PUBLIC);
            boolean taken = reader.publicNames.contains(method.getSimpleName().toString());
            boolean maker = method.getKind() == ElementKind.CONSTRUCTOR;
            must(open || maker || !taken, "rule 1: a method bears a public name: " + nameOf(method));
            if (open) checkDepth(reader.calls, new ArrayList<>(), method);
        }
    }

    private static void checkDepth(Map<Element, Set<Element>> calls, List<Element> above, Element method) {
        if (above.contains(method)) {
            must(false, "rule 8: " + nameOf(method) + " calls itself");
            return;
        }
        above.add(method);
        must(above.size() <= MOST_DEPTH, "rule 11: calls go too deep at " + nameOf(method));
        for (Element next : calls.getOrDefault(method, Set.of())) checkDepth(calls, above, next);
        above.remove(method);
    }

    /** What an object holds from its beginning on; the calls make nothing more. */
    private static void countRoom(Object holder) throws IllegalAccessException {
        objects++;
        if (holder.getClass().isArray()) {
            int length = Array.getLength(holder);
            elements += length;
            if (holder instanceof int[][] rows) for (int[] row : rows) countRoom(row);
            return;
        }
        for (Field field : holder.getClass().getDeclaredFields()) {
            if (java.lang.reflect.Modifier.isStatic(field.getModifiers())) continue;
            elements++;
            field.setAccessible(true);
            if (!field.getType().isPrimitive()) countRoom(field.get(holder));
        }
    }

    private static String nameOf(Element method) {
        return method.getEnclosingElement() + "." + method.getSimpleName();
    }

    /** Goes through the whole source once, looks at each part of it and notes which method calls which. */
    private static final class Reader extends TreePathScanner<Void, Void> {
        private final Trees trees;
        private final CompilationUnitTree unit;
        private final LineMap lines;
        private final Map<Element, Set<Element>> calls = new LinkedHashMap<>();
        private final Set<String> publicNames = new LinkedHashSet<>();
        private int classes = 0;
        private Element method = null;

        Reader(Trees trees, CompilationUnitTree unit) {
            this.trees = trees;
            this.unit = unit;
            this.lines = unit.getLineMap();
        }

        private long lineOf(long position) {
            return lines.getLineNumber(position);
        }

        private void mustHere(boolean holds, String fault, Tree tree) {
            must(holds, "line " + lineOf(trees.getSourcePositions().getStartPosition(unit, tree)) + ", " + fault);
        }

        @Override
        public Void scan(Tree tree, Void nothing) {
            if (tree != null) mustHere(!BARRED.contains(tree.getKind()), "barred: " + tree.getKind(), tree);
            return super.scan(tree, nothing);
        }

        @Override
        public Void visitClass(ClassTree tree, Void nothing) {
            classes++;
            boolean outer = getCurrentPath().getParentPath().getLeaf() == unit;
            Set<Modifier> modifiers = tree.getModifiers().getFlags();
            Set<Modifier> due = outer ? Set.of(Modifier.PUBLIC, Modifier.FINAL)
                : Set.of(Modifier.PRIVATE, Modifier.STATIC, Modifier.FINAL);
            mustHere(modifiers.equals(due), "rules 1 and 2: the class is " + modifiers, tree);
            int fields = 0;
            for (Tree member : tree.getMembers()) {
                mustHere(member.getKind() != Tree.Kind.BLOCK, "rule 5: a block of the class", member);
                boolean constant = member instanceof VariableTree field
                    && field.getModifiers().getFlags().contains(Modifier.STATIC);
                if (member instanceof VariableTree && !constant) fields++;
            }
            mustHere(fields <= MOST_FIELDS, "rule 11: " + fields + " fields", tree);
            return super.visitClass(tree, nothing);
        }

        @Override
        public Void visitVariable(VariableTree tree, Void nothing) {
            mustHere(TYPES.contains(tree.getType().toString()), "rule 3: the type " + tree.getType(), tree);
            Set<Modifier> modifiers = tree.getModifiers().getFlags();
            boolean field = getCurrentPath().getParentPath().getLeaf() instanceof ClassTree;
            if (field && modifiers.contains(Modifier.STATIC)) {
                mustHere(modifiers.contains(Modifier.FINAL) && tree.getType().toString().equals("int"), "rule 5: static state", tree);
            } else if (field) {
                mustHere(modifiers.contains(Modifier.PRIVATE), "rule 1: an open field", tree);
            }
            return super.visitVariable(tree, nothing);
        }

        @Override
        public Void visitMethod(MethodTree tree, Void nothing) {
            method = trees.getElement(getCurrentPath());
            calls.put(method, new LinkedHashSet<>());
            if (method.getModifiers().contains(Modifier.PUBLIC)) publicNames.add(method.getSimpleName().toString());
            mustHere(tree.getParameters().size() <= MOST_PARAMETERS, "rule 11: too many parameters", tree);
            long first = lineOf(trees.getSourcePositions().getStartPosition(unit, tree));
            long last = lineOf(Math.max(0, trees.getSourcePositions().getEndPosition(unit, tree)));
            mustHere(last - first < MOST_LINES, "rule 11: a method of " + (last - first + 1) + " lines", tree);
            super.visitMethod(tree, nothing);
            method = null;
            return null;
        }

        @Override
        public Void visitMethodInvocation(MethodInvocationTree tree, Void nothing) {
            Element called = trees.getElement(getCurrentPath());
            boolean own = nameOf(called).startsWith("FactorBranches.");
            boolean madeByCompiler = called.getKind() == ElementKind.CONSTRUCTOR;
            mustHere(own || madeByCompiler || LIBRARY.contains(nameOf(called)), "rule 4: a call of " + nameOf(called), tree);
            mustHere(method != null, "rule 12: a constructor calls a method", tree);
            if (own && method != null) calls.get(method).add(called);
            return super.visitMethodInvocation(tree, nothing);
        }

        /** Rule 9, as far as it can be seen so: a bound and a step towards it. */
        @Override
        public Void visitForLoop(ForLoopTree tree, Void nothing) {
            mustHere(tree.getCondition() != null && !tree.getUpdate().isEmpty(), "rule 9: a loop without a bound", tree);
            return super.visitForLoop(tree, nothing);
        }

        @Override
        public Void visitWhileLoop(WhileLoopTree tree, Void nothing) {
            String bound = tree.getCondition().toString();
            String variable = bound.replaceAll("\\(?(\\w+) > 0.*", "$1");
            mustHere(tree.getStatement().toString().contains(variable + "--;"), "rule 9: a loop that does not count down", tree);
            return super.visitWhileLoop(tree, nothing);
        }

        @Override
        public Void visitNewClass(NewClassTree tree, Void nothing) {
            mustHere(tree.getClassBody() == null, "rule 2: a class without a name", tree);
            mustHere(method == null, "rule 12: an object is made by a call", tree);
            return super.visitNewClass(tree, nothing);
        }

        @Override
        public Void visitNewArray(NewArrayTree tree, Void nothing) {
            mustHere(method == null, "rule 12: an array is made by a call", tree);
            return super.visitNewArray(tree, nothing);
        }
    }
}
