import com.sun.source.tree.*;
import com.sun.source.util.JavacTask;
import com.sun.source.util.TreePath;
import com.sun.source.util.TreePathScanner;
import com.sun.source.util.Trees;
import java.nio.file.Path;
import java.util.ArrayDeque;
import java.util.Deque;
import java.util.List;
import java.util.Map;
import java.util.Set;
import java.util.TreeMap;
import java.util.TreeSet;
import javax.lang.model.element.Element;
import javax.lang.model.element.Modifier;
import javax.lang.model.element.TypeElement;
import javax.lang.model.type.ArrayType;
import javax.lang.model.type.TypeKind;
import javax.lang.model.type.TypeMirror;
import javax.tools.JavaCompiler;
import javax.tools.StandardJavaFileManager;
import javax.tools.ToolProvider;

/**
 * The rules of LANGUAGE.md, as far as they can be read off the program's text. Of what the rules allow it lets
 * through only what the program uses, so that whoever needs more looks up the rule first and then adds it here.
 */
final class LanguageTest {
    private static final Check CHECK = new Check("LanguageTest");
    private static final Path PROGRAM = Path.of("src/main/java/FairDesk.java");
    private static final Set<String> LIBRARY = Set.of("Math.max", "Math.min", "Math.abs", "System.arraycopy");
    private static final Set<String> EXCEPTIONS =
            Set.of("IllegalStateException", "IllegalArgumentException", "IndexOutOfBoundsException");
    // What a rule forbids, or what the program does without so that the rule can be seen to hold.
    private static final Map<Tree.Kind, Integer> REFUSED = Map.of(Tree.Kind.PACKAGE, 1, Tree.Kind.LAMBDA_EXPRESSION, 2,
            Tree.Kind.MEMBER_REFERENCE, 2, Tree.Kind.IMPORT, 4, Tree.Kind.ANNOTATION, 4, Tree.Kind.TRY, 6,
            Tree.Kind.SYNCHRONIZED, 6, Tree.Kind.ASSERT, 6, Tree.Kind.WHILE_LOOP, 9, Tree.Kind.DO_WHILE_LOOP, 9);
    // What calls itself, each with a guard on its depth.
    private static final Set<String> RECURSIONS =
            Set.of("ProductSearch.tryItem", "BundleSearch.tryItem", "House.tryRooms", "CakeTable.halve");
    private static final String CONSTRUCTOR = "<init>";
    private static final int MOST_LINES = 60;
    private static final int MOST_PARAMETERS = 7;
    private static final int MOST_CLASSES = 12;
    private static final int MOST_FIELDS = 20;
    private static final int MOST_CALLS_DEEP = 8;

    public static void main(String[] args) throws Exception {
        JavaCompiler compiler = ToolProvider.getSystemJavaCompiler();
        try (StandardJavaFileManager files = compiler.getStandardFileManager(null, null, null)) {
            JavacTask task = (JavacTask) compiler.getTask(null, files, null, List.of("-proc:none"), null,
                    files.getJavaFileObjects(PROGRAM));
            CompilationUnitTree unit = task.parse().iterator().next();
            task.analyze();
            Reader reader = new Reader(Trees.instance(task), unit);
            reader.scan(unit, null);
            reader.lookAtWhole();
        }
        CHECK.end();
    }

    /** Goes through the text once, looks at each part of it, and notes who calls whom. */
    private static final class Reader extends TreePathScanner<Void, Void> {
        private final Trees trees;
        private final CompilationUnitTree unit;
        private final Deque<String> methods = new ArrayDeque<>();
        private final Map<String, Set<String>> calls = new TreeMap<>();
        private final Set<String> publicNames = new TreeSet<>();
        private final Set<String> hiddenNames = new TreeSet<>();
        private int classes = 0;

        Reader(Trees trees, CompilationUnitTree unit) {
            this.trees = trees;
            this.unit = unit;
        }

        private void rule(int number, Tree tree, String complaint, boolean holds) {
            long start = trees.getSourcePositions().getStartPosition(unit, tree);
            CHECK.isTrue("rule " + number + ", line " + unit.getLineMap().getLineNumber(start) + ": " + complaint, holds);
        }

        private Element elementHere() {
            return trees.getElement(getCurrentPath());
        }

        private TypeMirror typeOf(Tree part) {
            return trees.getTypeMirror(new TreePath(getCurrentPath(), part));
        }

        private boolean isInConstructor() {
            return !methods.isEmpty() && methods.peek().endsWith(CONSTRUCTOR);
        }

        private static boolean isOwn(Element element) {
            Element top = element;
            while (top.getEnclosingElement() instanceof TypeElement outer) {
                top = outer;
            }
            return top.getSimpleName().contentEquals("FairDesk");
        }

        private static String nameOf(Element element) {
            return element.getEnclosingElement().getSimpleName() + "." + element.getSimpleName();
        }

        @Override
        public Void scan(Tree tree, Void nothing) {
            if (tree != null) {
                Integer refusedBy = REFUSED.get(tree.getKind());
                rule(refusedBy == null ? 0 : refusedBy, tree, tree.getKind() + " is refused", refusedBy == null);
            }
            return super.scan(tree, nothing);
        }

        @Override
        public Void visitClass(ClassTree tree, Void nothing) {
            classes++;
            boolean inside = getCurrentPath().getParentPath().getLeaf() instanceof ClassTree;
            Set<Modifier> kind = tree.getModifiers().getFlags();
            if (inside) {
                boolean isHidden = kind.containsAll(Set.of(Modifier.PRIVATE, Modifier.STATIC));
                rule(1, tree, "a class inside is not private and static", isHidden);
            } else {
                rule(1, tree, "a second class beside the first", classes == 1);
            }
            int fields = 0;
            for (Tree member : tree.getMembers()) {
                rule(5, member, "an initialiser block", !(member instanceof BlockTree));
                if (member instanceof VariableTree field && !field.getModifiers().getFlags().contains(Modifier.STATIC)) {
                    fields++;
                }
            }
            rule(11, tree, fields + " fields", fields <= MOST_FIELDS);
            return super.visitClass(tree, nothing);
        }

        @Override
        public Void visitMethod(MethodTree tree, Void nothing) {
            Element method = elementHere();
            String name = method.getSimpleName().toString();
            if (!name.equals(CONSTRUCTOR)) {
                (method.getModifiers().contains(Modifier.PUBLIC) ? publicNames : hiddenNames).add(name);
            }
            rule(11, tree, method + " has many parameters", tree.getParameters().size() <= MOST_PARAMETERS);
            rule(11, tree, method + " is long", linesOf(tree) <= MOST_LINES);
            if (tree.getReturnType() != null) {
                rule(3, tree, "it answers " + tree.getReturnType(), isKnownType(typeOf(tree.getReturnType())));
            }
            methods.push(nameOf(method));
            calls.computeIfAbsent(methods.peek(), ignored -> new TreeSet<>());
            super.visitMethod(tree, nothing);
            methods.pop();
            return null;
        }

        private long linesOf(Tree tree) {
            long start = trees.getSourcePositions().getStartPosition(unit, tree);
            long end = trees.getSourcePositions().getEndPosition(unit, tree);
            return unit.getLineMap().getLineNumber(end) - unit.getLineMap().getLineNumber(start) + 1;
        }

        @Override
        public Void visitVariable(VariableTree tree, Void nothing) {
            Element variable = elementHere();
            rule(3, tree, "it is of " + variable.asType(), isKnownType(variable.asType()));
            if (variable.getModifiers().contains(Modifier.STATIC)) {
                rule(5, tree, "a static field that is no constant", variable.getModifiers().contains(Modifier.FINAL)
                        && variable.asType().getKind().isPrimitive() && tree.getInitializer() != null);
            }
            return super.visitVariable(tree, nothing);
        }

        private static boolean isKnownType(TypeMirror type) {
            int dimensions = 0;
            TypeMirror leaf = type;
            while (leaf instanceof ArrayType array) {
                dimensions++;
                leaf = array.getComponentType();
            }
            boolean isNumber = leaf.getKind() == TypeKind.INT || leaf.getKind() == TypeKind.LONG;
            boolean isClass = leaf.getKind() == TypeKind.DECLARED && leaf.toString().startsWith("FairDesk");
            boolean isOther = leaf.getKind() == TypeKind.BOOLEAN || leaf.getKind() == TypeKind.VOID;
            return isNumber && dimensions <= 2 || (isClass || isOther) && dimensions <= 1;
        }

        @Override
        public Void visitMethodInvocation(MethodInvocationTree tree, Void nothing) {
            Element called = elementHere();
            String name = nameOf(called);
            // The compiler itself writes a constructor's call of that of Object.
            boolean isFree = LIBRARY.contains(name) || name.equals("Object." + CONSTRUCTOR);
            rule(4, tree, name + " is none of the library's that the program needs", isOwn(called) || isFree);
            if (isOwn(called) && !methods.isEmpty()) {
                calls.get(methods.peek()).add(name);
                boolean isHidden = called.getModifiers().contains(Modifier.PRIVATE);
                rule(12, tree, "a constructor calls a method that is not private", !isInConstructor() || isHidden);
            }
            return super.visitMethodInvocation(tree, nothing);
        }

        @Override
        public Void visitMemberSelect(MemberSelectTree tree, Void nothing) {
            Element named = elementHere();
            if (named != null && named.getKind().isField()) {
                boolean isLength = typeOf(tree.getExpression()).getKind() == TypeKind.ARRAY;
                rule(4, tree, tree + " is a field of the library", isLength || isOwn(named));
            }
            return super.visitMemberSelect(tree, nothing);
        }

        @Override
        public Void visitThrow(ThrowTree tree, Void nothing) {
            boolean isPlain = tree.getExpression() instanceof NewClassTree made
                    && EXCEPTIONS.contains(made.getIdentifier().toString()) && made.getArguments().size() == 1
                    && made.getArguments().get(0).getKind() == Tree.Kind.STRING_LITERAL;
            rule(6, tree, "it throws something else", isPlain);
            boolean isOfFace = methods.peek().startsWith("FairDesk.") && !isInConstructor();
            rule(6, tree, "a method behind the face throws", isOfFace);
            return super.visitThrow(tree, nothing);
        }

        @Override
        public Void visitNewClass(NewClassTree tree, Void nothing) {
            rule(2, tree, "a class without a name", tree.getClassBody() == null);
            boolean isThrown = getCurrentPath().getParentPath().getLeaf() instanceof ThrowTree;
            rule(12, tree, "a method makes an object", isThrown || methods.isEmpty() || isInConstructor());
            return super.visitNewClass(tree, nothing);
        }

        @Override
        public Void visitNewArray(NewArrayTree tree, Void nothing) {
            rule(12, tree, "a method makes an array", methods.isEmpty() || isInConstructor());
            return super.visitNewArray(tree, nothing);
        }

        @Override
        public Void visitBinary(BinaryTree tree, Void nothing) {
            boolean isText = trees.getTypeMirror(getCurrentPath()).toString().equals("java.lang.String");
            rule(10, tree, "texts are joined by +", !isText);
            return super.visitBinary(tree, nothing);
        }

        @Override
        public Void visitForLoop(ForLoopTree tree, Void nothing) {
            boolean counts = tree.getInitializer().size() == 1 && tree.getCondition() != null
                    && tree.getUpdate().size() == 1;
            rule(9, tree, "a loop without a counter and its bound", counts);
            return super.visitForLoop(tree, nothing);
        }

        void lookAtWhole() {
            CHECK.isTrue("rule 11: " + classes + " classes", classes <= MOST_CLASSES);
            for (String name : hiddenNames) {
                CHECK.isTrue("rule 1: a hidden method bears the public name " + name, !publicNames.contains(name));
            }
            for (String method : calls.keySet()) {
                boolean callsItself = calls.get(method).remove(method);
                CHECK.isTrue("rule 8: " + method + " calls itself", callsItself == RECURSIONS.contains(method));
            }
            for (String method : calls.keySet()) {
                int deep = callsDeep(method, 0);
                CHECK.isTrue("rule 11: calls from " + method + " go " + deep + " deep", deep <= MOST_CALLS_DEEP);
            }
        }

        /** A ring of several methods would go ever deeper, and is told as too deep. */
        private int callsDeep(String method, int above) {
            int deepest = 1;
            if (above <= MOST_CALLS_DEEP) {
                for (String called : calls.getOrDefault(method, Set.of())) {
                    deepest = Math.max(deepest, 1 + callsDeep(called, above + 1));
                }
            }
            return deepest;
        }
    }
}
