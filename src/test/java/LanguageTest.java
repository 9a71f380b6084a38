import com.sun.source.tree.BlockTree;
import com.sun.source.tree.ClassTree;
import com.sun.source.tree.CompilationUnitTree;
import com.sun.source.tree.ExpressionTree;
import com.sun.source.tree.ForLoopTree;
import com.sun.source.tree.MethodInvocationTree;
import com.sun.source.tree.MethodTree;
import com.sun.source.tree.NewClassTree;
import com.sun.source.tree.PrimitiveTypeTree;
import com.sun.source.tree.Tree;
import com.sun.source.tree.TypeCastTree;
import com.sun.source.tree.VariableTree;
import com.sun.source.util.JavacTask;
import com.sun.source.util.TreePath;
import com.sun.source.util.TreePathScanner;
import com.sun.source.util.Trees;
import java.io.IOException;
import java.nio.file.Path;
import java.util.HashMap;
import java.util.LinkedHashSet;
import java.util.List;
import java.util.Map;
import java.util.Set;
import javax.lang.model.element.Element;
import javax.lang.model.element.ElementKind;
import javax.lang.model.element.ExecutableElement;
import javax.lang.model.element.Modifier;
import javax.lang.model.element.NestingKind;
import javax.lang.model.element.PackageElement;
import javax.lang.model.element.TypeElement;
import javax.lang.model.type.ArrayType;
import javax.lang.model.type.DeclaredType;
import javax.lang.model.type.TypeKind;
import javax.lang.model.type.TypeMirror;
import javax.lang.model.util.ElementFilter;
import javax.lang.model.util.Elements;
import javax.tools.JavaCompiler;
import javax.tools.StandardJavaFileManager;
import javax.tools.ToolProvider;

/**
 * The rules of ../shared/LANGUAGE.md, as far as the compiler's own tree of the program can tell them; each check names
 * its rule. What the rules leave but the program has no use for (texts, lists, throws, doubles) is not let in here.
 */
public final class LanguageTest {
    private static final Path PROGRAM = Path.of("src", "main", "java", "ThrowModels.java");
    private static final int LONGEST_METHOD = 60;
    private static final int MOST_PARAMETERS = 7;
    private static final int MOST_CLASSES = 12;
    private static final int MOST_FIELDS = 20;
    private static final int DEEPEST_CALL = 8;

    /** Kinds of trees that are not for a program of these rules, or not for this one. */
    private static final Set<String> BANNED = Set.of(
        "ANNOTATION", "ASSERT", "CATCH", "DOUBLE_LITERAL", "EMPTY_STATEMENT", "ERRONEOUS", "FLOAT_LITERAL", "IMPORT", "INTERFACE",
        "INTERSECTION_TYPE", "LAMBDA_EXPRESSION", "MEMBER_REFERENCE", "MODULE", "OTHER", "PACKAGE", "PARAMETERIZED_TYPE",
        "STRING_LITERAL", "SWITCH_EXPRESSION", "SYNCHRONIZED", "THROW", "TRY", "UNION_TYPE", "WHILE_LOOP", "DO_WHILE_LOOP",
        "YIELD", "GUARDED_PATTERN", "RECORD");
    private static final Set<String> LIBRARY = Set.of(
        "java.lang.Math.max(int,int)", "java.lang.Math.max(long,long)", "java.lang.Math.min(int,int)",
        "java.lang.Math.min(long,long)", "java.lang.Math.abs(long)",
        "java.lang.System.arraycopy(java.lang.Object,int,java.lang.Object,int,int)");
    private static final Set<Modifier> MODIFIERS = Set.of(
        Modifier.PUBLIC, Modifier.PRIVATE, Modifier.STATIC, Modifier.FINAL, Modifier.ABSTRACT);
    private static final Set<String> CONSTANTS = Set.of("int", "long", "boolean", "char");

    public static void main(String[] args) throws IOException {
        JavaCompiler compiler = ToolProvider.getSystemJavaCompiler();
        try (StandardJavaFileManager files = compiler.getStandardFileManager(null, null, null)) {
            Path program = args.length == 0 ? PROGRAM : Path.of(args[0]);
            JavacTask task = (JavacTask) compiler.getTask(null, files, null, List.of("-proc:none"), null,
                files.getJavaFileObjects(program));
            CompilationUnitTree unit = task.parse().iterator().next();
            task.analyze();
            Rules rules = new Rules(Trees.instance(task), task.getElements(), unit);
            Check.due("rule 1: classes outside the public one", unit.getTypeDecls().size(), 1);
            rules.scan(unit, null);
            rules.checkClasses();
            rules.checkDepth();
        }
        Check.end();
    }

    private static void holds(String rule, boolean holds) {
        Check.due(rule, holds ? 1 : 0, 1);
    }

    /** One alone is found without a look at the kind of the object: what super tells, and constructors. */
    private record Call(ExecutableElement method, boolean isOneAlone) {
    }

    private static final class Rules extends TreePathScanner<Void, Void> {
        private final Trees trees;
        private final Elements elements;
        private final CompilationUnitTree unit;
        private final Set<TypeElement> classes = new LinkedHashSet<>();
        private final Map<ExecutableElement, Set<Call>> calls = new HashMap<>();
        private final Map<ExecutableElement, Integer> depths = new HashMap<>();
        private ExecutableElement caller;

        Rules(Trees trees, Elements elements, CompilationUnitTree unit) {
            this.trees = trees;
            this.elements = elements;
            this.unit = unit;
        }

        // ---- what the tree is made of

        @Override
        public Void scan(Tree tree, Void none) {
            if (tree != null) {
                String line = "line " + lineAt(trees.getSourcePositions().getStartPosition(unit, tree));
                holds("rules 1 to 6: a tree of kind " + tree.getKind() + " in " + line, !BANNED.contains(tree.getKind().name()));
            }
            return super.scan(tree, none);
        }

        private long lineAt(long position) {
            return position < 0 ? 0 : unit.getLineMap().getLineNumber(position);
        }

        @Override
        public Void visitClass(ClassTree tree, Void none) {
            TypeElement type = (TypeElement) element();
            classes.add(type);
            for (Tree member : tree.getMembers()) {
                holds("rule 5: no block of " + type, !(member instanceof BlockTree));
            }
            if (type.getNestingKind().isNested()) {
                holds("rule 2: " + type + " is no class within a method", type.getNestingKind() == NestingKind.MEMBER);
                holds("rule 1: " + type + " is not public", !isOpen(type));
                holds("rule 1: " + type + " is static", type.getModifiers().contains(Modifier.STATIC));
            }
            return super.visitClass(tree, none);
        }

        private static boolean isOpen(Element element) {
            return element.getModifiers().contains(Modifier.PUBLIC) || element.getModifiers().contains(Modifier.PROTECTED);
        }

        @Override
        public Void visitMethod(MethodTree tree, Void none) {
            caller = (ExecutableElement) element();
            long first = trees.getSourcePositions().getStartPosition(unit, tree);
            long last = trees.getSourcePositions().getEndPosition(unit, tree);
            holds("rule 11: lines of " + caller, lineAt(last) - lineAt(first) < LONGEST_METHOD);
            holds("rule 11: parameters of " + caller, tree.getParameters().size() <= MOST_PARAMETERS);
            holds("rule 6: throws of " + caller, tree.getThrows().isEmpty());
            holds("rule 6: no other words ahead of " + caller, MODIFIERS.containsAll(caller.getModifiers()));
            holds("rule 3: the type of " + caller, isLeft(caller.getReturnType()));
            calls.put(caller, new LinkedHashSet<>());
            super.visitMethod(tree, none);
            caller = null;
            return null;
        }

        @Override
        public Void visitVariable(VariableTree tree, Void none) {
            Element field = element();
            holds("rule 3: the type of " + field, isLeft(field.asType()));
            if (field.getModifiers().contains(Modifier.STATIC) && field.getKind() == ElementKind.FIELD) {
                holds("rule 5: " + field + " is final", field.getModifiers().contains(Modifier.FINAL));
                holds("rule 5: the type of " + field, CONSTANTS.contains(field.asType().toString()));
            }
            if (field.getKind() == ElementKind.FIELD && field.getEnclosingElement().getKind() == ElementKind.ENUM) {
                holds("rule 2: the type of " + field, CONSTANTS.contains(field.asType().toString()));
            }
            return super.visitVariable(tree, none);
        }

        /** Whether the rules leave a type, and this program has a use for it. */
        private static boolean isLeft(TypeMirror type) {
            if (type instanceof ArrayType array) {
                return isLeft(array.getComponentType()) && array.getComponentType().getKind() != TypeKind.ARRAY;
            }
            if (type instanceof DeclaredType declared) {
                return isOwn(declared.asElement());
            }
            return type.getKind() != TypeKind.DOUBLE && type.getKind() != TypeKind.FLOAT;
        }

        @Override
        public Void visitPrimitiveType(PrimitiveTypeTree tree, Void none) {
            TypeKind kind = tree.getPrimitiveTypeKind();
            holds("rule 3: no doubles or floats", kind != TypeKind.DOUBLE && kind != TypeKind.FLOAT);
            return super.visitPrimitiveType(tree, none);
        }

        @Override
        public Void visitTypeCast(TypeCastTree tree, Void none) {
            holds("rule 7: the cast " + tree + " cannot fail", tree.getType() instanceof PrimitiveTypeTree);
            return super.visitTypeCast(tree, none);
        }

        @Override
        public Void visitForLoop(ForLoopTree tree, Void none) {
            boolean tellsItsEnd = tree.getCondition() != null && tree.getUpdate().size() == 1;
            holds("rule 9: the loop " + tree.getCondition(), tellsItsEnd);
            return super.visitForLoop(tree, none);
        }

        // ---- calls

        @Override
        public Void visitMethodInvocation(MethodInvocationTree tree, Void none) {
            ExecutableElement called = (ExecutableElement) element();
            if (!isOwn(called) && called.getKind() == ElementKind.METHOD) {
                holds("rule 4: " + told(called), LIBRARY.contains(told(called)));
            }
            if (called.getSimpleName().contentEquals("arraycopy")) {
                holds("rule 4: " + tree + " copies numbers", copiesNumbers(tree));
            }
            note(called, tree.getMethodSelect().toString().startsWith("super"));
            return super.visitMethodInvocation(tree, none);
        }

        @Override
        public Void visitNewClass(NewClassTree tree, Void none) {
            ExecutableElement made = (ExecutableElement) element();
            holds("rule 4: new " + made, isOwn(made));
            holds("rule 2: no anonymous " + made, tree.getClassBody() == null);
            note(made, true);
            return super.visitNewClass(tree, none);
        }

        private boolean copiesNumbers(MethodInvocationTree tree) {
            return isOfNumbers(tree.getArguments().get(0)) && isOfNumbers(tree.getArguments().get(2));
        }

        private boolean isOfNumbers(ExpressionTree argument) {
            TypeMirror type = trees.getTypeMirror(new TreePath(getCurrentPath(), argument));
            return type instanceof ArrayType array && array.getComponentType().getKind().isPrimitive();
        }

        private Element element() {
            return trees.getElement(getCurrentPath());
        }

        private static boolean isOwn(Element element) {
            Element outermost = element;
            while (!(outermost.getEnclosingElement() instanceof PackageElement)) {
                outermost = outermost.getEnclosingElement();
            }
            return outermost.getSimpleName().contentEquals("ThrowModels");
        }

        private static String told(ExecutableElement method) {
            return method.getEnclosingElement() + "." + method;
        }

        private void note(ExecutableElement called, boolean isOneAlone) {
            if (caller != null) {
                calls.get(caller).add(new Call(called, isOneAlone));
            }
        }

        // ---- the whole

        void checkClasses() {
            Set<String> face = new LinkedHashSet<>();
            holds("rule 11: " + classes.size() + " classes", classes.size() <= MOST_CLASSES);
            for (TypeElement type : classes) {
                long fields = ElementFilter.fieldsIn(type.getEnclosedElements()).stream()
                    .filter(field -> !field.getModifiers().contains(Modifier.STATIC)).count();
                holds("rule 11: " + fields + " fields of " + type, fields <= MOST_FIELDS);
            }
            for (ExecutableElement method : calls.keySet()) {
                if (isOpen(method)) {
                    face.add(method.getSimpleName().toString());
                }
            }
            face.remove("<init>");
            for (ExecutableElement method : calls.keySet()) {
                boolean isFree = isOpen(method) || !face.contains(method.getSimpleName().toString());
                holds("rule 1: the name of " + told(method), isFree);
            }
        }

        void checkDepth() {
            int deepest = 0;
            for (ExecutableElement method : calls.keySet()) {
                int depth = depth(method);
                holds("rule 11: " + told(method) + " goes " + depth + " deep", depth <= DEEPEST_CALL);
                deepest = Math.max(deepest, depth);
            }
            System.out.print("calls go " + deepest + " deep, ");
        }

        /** The most calls that stand open at once from this one on, one of the library among them. */
        private int depth(ExecutableElement method) {
            Integer known = depths.get(method);
            if (known != null) {
                holds("rule 8: " + told(method) + " does not call itself", known > 0);
                return known;
            }
            depths.put(method, 0);
            int below = 0;
            for (Call call : calls.getOrDefault(method, Set.of())) {
                for (ExecutableElement found : found(call)) {
                    below = Math.max(below, depth(found));
                }
            }
            depths.put(method, below + 1);
            return below + 1;
        }

        /** What a call may reach: the method itself, and all in narrower classes that take its place. */
        private Set<ExecutableElement> found(Call call) {
            Set<ExecutableElement> all = new LinkedHashSet<>(Set.of(call.method()));
            for (ExecutableElement method : calls.keySet()) {
                TypeElement type = (TypeElement) method.getEnclosingElement();
                if (!call.isOneAlone() && elements.overrides(method, call.method(), type)) {
                    all.add(method);
                }
            }
            return all;
        }
    }
}
