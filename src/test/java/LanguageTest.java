import com.sun.source.tree.AssertTree;
import com.sun.source.tree.AssignmentTree;
import com.sun.source.tree.BinaryTree;
import com.sun.source.tree.BlockTree;
import com.sun.source.tree.ClassTree;
import com.sun.source.tree.CompilationUnitTree;
import com.sun.source.tree.CompoundAssignmentTree;
import com.sun.source.tree.ImportTree;
import com.sun.source.tree.InstanceOfTree;
import com.sun.source.tree.LambdaExpressionTree;
import com.sun.source.tree.LiteralTree;
import com.sun.source.tree.MemberReferenceTree;
import com.sun.source.tree.MethodInvocationTree;
import com.sun.source.tree.MethodTree;
import com.sun.source.tree.NewArrayTree;
import com.sun.source.tree.NewClassTree;
import com.sun.source.tree.SynchronizedTree;
import com.sun.source.tree.ThrowTree;
import com.sun.source.tree.Tree;
import com.sun.source.tree.TryTree;
import com.sun.source.tree.VariableTree;
import com.sun.source.util.JavacTask;
import com.sun.source.util.TreePath;
import com.sun.source.util.TreePathScanner;
import com.sun.source.util.Trees;
import java.io.File;
import java.util.ArrayList;
import java.util.HashMap;
import java.util.LinkedHashMap;
import java.util.LinkedHashSet;
import java.util.List;
import java.util.Map;
import java.util.Set;
import javax.lang.model.element.Element;
import javax.lang.model.element.ElementKind;
import javax.lang.model.element.ExecutableElement;
import javax.lang.model.element.Modifier;
import javax.lang.model.type.ArrayType;
import javax.lang.model.type.TypeKind;
import javax.lang.model.type.TypeMirror;
import javax.tools.JavaCompiler;
import javax.tools.StandardJavaFileManager;
import javax.tools.ToolProvider;

/**
 * The rules of LANGUAGE.md that can be told from the source that javac has read. It asks for less than
 * the rules allow where the program needs less: no try, no list, nothing made outside constructors.
 */
public final class LanguageTest {
    private static final String SOURCE = "src/main/java/BasicMachine.java";
    private static final Set<String> FACE = Set.of("BasicMachine()", "type(int)", "enter()", "errorAt()", "wipe()", "run()",
            "printed(int)", "variable(int)", "element(int,int,int)", "at()", "count(int)");
    private static final Set<String> EXCEPTIONS = Set.of("IllegalStateException", "IllegalArgumentException",
            "IndexOutOfBoundsException", "ArithmeticException", "UnsupportedOperationException", "NoSuchElementException",
            "RuntimeException");
    private static final Set<String> LIBRARY = Set.of("java.lang.String.length()", "java.lang.String.charAt(int)",
            "java.lang.Math.max(int,int)", "java.lang.Math.min(int,int)", "java.lang.Math.abs(int)",
            "java.lang.System.arraycopy(java.lang.Object,int,java.lang.Object,int,int)");
    private static final int MOST_PARAMETERS = 7;
    private static final int MOST_LINES = 60;
    private static final int MOST_CLASSES = 12;
    private static final int MOST_FIELDS = 20;
    private static final int MOST_DEEP = 8;

    private static int wrong;
    private static int looked;

    private static void rule(int number, boolean isKept, String what) {
        looked++;
        if (!isKept) {
            wrong++;
            System.out.println("rule " + number + ": " + what);
        }
    }

    /** What the walk over the source gathers for the rules that look at more than one place. */
    private static final class Walk extends TreePathScanner<Void, Void> {
        final Map<ExecutableElement, Set<ExecutableElement>> calls = new LinkedHashMap<>();
        final Set<String> faceNames = new LinkedHashSet<>();
        final List<ExecutableElement> methods = new ArrayList<>();
        private final Trees trees;
        private final CompilationUnitTree unit;
        private ExecutableElement method;
        private int classes;

        Walk(Trees trees, CompilationUnitTree unit) {
            this.trees = trees;
            this.unit = unit;
        }

        private String at(Tree tree) {
            long place = trees.getSourcePositions().getStartPosition(unit, tree);
            return " at line " + unit.getLineMap().getLineNumber(place);
        }

        private Element elementOf(Tree tree) {
            return trees.getElement(new TreePath(getCurrentPath(), tree));
        }

        private TypeMirror typeOf(Tree tree) {
            return trees.getTypeMirror(new TreePath(getCurrentPath(), tree));
        }

        private boolean isBroken(Tree tree) {
            TypeMirror type = typeOf(tree);
            return type != null && (type.getKind() == TypeKind.DOUBLE || type.getKind() == TypeKind.FLOAT);
        }

        private boolean isText(Tree tree) {
            TypeMirror type = typeOf(tree);
            return type != null && type.toString().equals("java.lang.String");
        }

        @Override
        public Void visitImport(ImportTree tree, Void none) {
            rule(13, tree.getQualifiedIdentifier().toString().equals("java.util.NoSuchElementException"), "an import" + at(tree));
            return null;
        }

        @Override
        public Void visitClass(ClassTree tree, Void none) {
            Element element = trees.getElement(getCurrentPath());
            classes++;
            rule(11, classes <= MOST_CLASSES, "more than " + MOST_CLASSES + " classes");
            rule(2, !tree.getSimpleName().toString().isEmpty(), "an anonymous class" + at(tree));
            boolean isOuter = element.getEnclosingElement().getKind() == ElementKind.PACKAGE;
            if (isOuter) {
                rule(1, element.getModifiers().equals(Set.of(Modifier.PUBLIC, Modifier.FINAL)), "the class is public and final");
            } else {
                rule(2, element.getModifiers().contains(Modifier.STATIC), "a class that is not static" + at(tree));
                rule(1, !isOpen(element), "an open class" + at(tree));
            }
            int fields = 0;
            for (Tree member : tree.getMembers()) {
                rule(5, !(member instanceof BlockTree), "an initialiser block" + at(member));
                fields += isOwnField(elementOf(member)) ? 1 : 0;
                if (isOuter && !(member instanceof ClassTree)) {
                    face(elementOf(member), at(member));
                }
            }
            rule(11, fields <= MOST_FIELDS, fields + " fields" + at(tree));
            return super.visitClass(tree, none);
        }

        private static boolean isOpen(Element element) {
            return element.getModifiers().contains(Modifier.PUBLIC) || element.getModifiers().contains(Modifier.PROTECTED);
        }

        private static boolean isOwnField(Element element) {
            return element != null && element.getKind() == ElementKind.FIELD && !element.getModifiers().contains(Modifier.STATIC);
        }

        private void face(Element member, String place) {
            if (member == null || member.getModifiers().contains(Modifier.PRIVATE)) {
                return;
            }
            boolean isField = member.getKind() == ElementKind.FIELD;
            rule(1, !isField && isOpen(member) && FACE.contains(member.toString()), member + " is not of the face" + place);
            faceNames.add(member.getSimpleName().toString());
        }

        @Override
        public Void visitMethod(MethodTree tree, Void none) {
            method = (ExecutableElement) trees.getElement(getCurrentPath());
            methods.add(method);
            calls.put(method, new LinkedHashSet<>());
            long first = trees.getSourcePositions().getStartPosition(unit, tree);
            long last = trees.getSourcePositions().getEndPosition(unit, tree);
            boolean isWritten = last > first;
            long lines = isWritten ? unit.getLineMap().getLineNumber(last) - unit.getLineMap().getLineNumber(first) + 1 : 0;
            rule(11, lines <= MOST_LINES, lines + " lines of " + method);
            rule(11, tree.getParameters().size() <= MOST_PARAMETERS, "parameters of " + method);
            super.visitMethod(tree, none);
            method = null;
            return null;
        }

        @Override
        public Void visitVariable(VariableTree tree, Void none) {
            Element element = trees.getElement(getCurrentPath());
            rule(3, isAllowed(element.asType()), "the type of " + tree.getName() + at(tree));
            if (element.getModifiers().contains(Modifier.STATIC) && element.getKind() == ElementKind.FIELD) {
                rule(5, element.getModifiers().contains(Modifier.FINAL), "a static field that is not final" + at(tree));
                rule(5, isStaticType(element.asType()), "the type of a static field" + at(tree));
            }
            return super.visitVariable(tree, none);
        }

        private boolean isAllowed(TypeMirror type) {
            if (type.getKind() == TypeKind.ARRAY) {
                TypeMirror part = ((ArrayType) type).getComponentType();
                return part.getKind() != TypeKind.ARRAY && isAllowed(part);
            }
            String name = type.toString();
            return type.getKind().isPrimitive() || name.equals("java.lang.String") || name.startsWith("BasicMachine");
        }

        private boolean isStaticType(TypeMirror type) {
            String name = type.toString();
            return name.equals("int") || name.equals("long") || name.equals("boolean") || name.equals("char")
                    || name.equals("java.lang.String") || name.startsWith("BasicMachine.");
        }

        @Override
        public Void visitMethodInvocation(MethodInvocationTree tree, Void none) {
            ExecutableElement called = (ExecutableElement) elementOf(tree);
            String owner = called.getEnclosingElement().toString();
            boolean isOwn = owner.startsWith("BasicMachine");
            boolean isStart = called.getKind() == ElementKind.CONSTRUCTOR;
            rule(4, isOwn || isStart || LIBRARY.contains(owner + "." + called), owner + "." + called + at(tree));
            note(called, isOwn);
            return super.visitMethodInvocation(tree, none);
        }

        private void note(ExecutableElement called, boolean isOwn) {
            if (isOwn && method != null) {
                calls.get(method).add(called);
            }
        }

        @Override
        public Void visitNewClass(NewClassTree tree, Void none) {
            boolean isThrown = getCurrentPath().getParentPath().getLeaf() instanceof ThrowTree;
            rule(12, isThrown || isMade(), "something made" + at(tree));
            return super.visitNewClass(tree, none);
        }

        @Override
        public Void visitNewArray(NewArrayTree tree, Void none) {
            rule(12, isMade(), "something made" + at(tree));
            return super.visitNewArray(tree, none);
        }

        /** In a constructor, or as a field's first value. */
        private boolean isMade() {
            return method == null || method.getKind() == ElementKind.CONSTRUCTOR;
        }

        @Override
        public Void visitThrow(ThrowTree tree, Void none) {
            boolean isNew = tree.getExpression() instanceof NewClassTree;
            rule(6, isNew && isPlain((NewClassTree) tree.getExpression()), "a throw" + at(tree));
            rule(6, method != null && method.getKind() != ElementKind.CONSTRUCTOR, "a throw in a constructor" + at(tree));
            return super.visitThrow(tree, none);
        }

        private boolean isPlain(NewClassTree made) {
            List<?> texts = made.getArguments();
            return EXCEPTIONS.contains(made.getIdentifier().toString()) && made.getClassBody() == null
                    && (texts.isEmpty() || texts.size() == 1 && texts.get(0) instanceof LiteralTree);
        }

        @Override
        public Void visitBinary(BinaryTree tree, Void none) {
            boolean isBroken = isBroken(tree.getLeftOperand()) || isBroken(tree.getRightOperand());
            rule(3, !isBroken || tree.getKind() != Tree.Kind.REMAINDER, "a remainder of doubles" + at(tree));
            rule(10, !isText(tree.getLeftOperand()) && !isText(tree.getRightOperand()), "texts joined or compared" + at(tree));
            return super.visitBinary(tree, none);
        }

        @Override
        public Void visitCompoundAssignment(CompoundAssignmentTree tree, Void none) {
            rule(10, !isText(tree.getVariable()), "texts joined" + at(tree));
            rule(3, !isBroken(tree.getVariable()) || tree.getKind() != Tree.Kind.REMAINDER_ASSIGNMENT, "a remainder" + at(tree));
            return super.visitCompoundAssignment(tree, none);
        }

        @Override
        public Void visitAssignment(AssignmentTree tree, Void none) {
            Element set = elementOf(tree.getVariable());
            boolean isStatic = set != null && set.getModifiers().contains(Modifier.STATIC);
            rule(5, !isStatic, "a static field that is set" + at(tree));
            return super.visitAssignment(tree, none);
        }

        @Override
        public Void visitTry(TryTree tree, Void none) {
            rule(6, false, "a try" + at(tree));
            return super.visitTry(tree, none);
        }

        @Override
        public Void visitSynchronized(SynchronizedTree tree, Void none) {
            rule(6, false, "synchronized" + at(tree));
            return super.visitSynchronized(tree, none);
        }

        @Override
        public Void visitAssert(AssertTree tree, Void none) {
            rule(6, false, "assert" + at(tree));
            return super.visitAssert(tree, none);
        }

        @Override
        public Void visitInstanceOf(InstanceOfTree tree, Void none) {
            rule(6, false, "instanceof" + at(tree));
            return super.visitInstanceOf(tree, none);
        }

        @Override
        public Void visitLambdaExpression(LambdaExpressionTree tree, Void none) {
            rule(2, false, "a lambda" + at(tree));
            return super.visitLambdaExpression(tree, none);
        }

        @Override
        public Void visitMemberReference(MemberReferenceTree tree, Void none) {
            rule(2, false, "a method reference" + at(tree));
            return super.visitMemberReference(tree, none);
        }
    }

    private static void names(Walk walk) {
        rule(1, walk.faceNames.size() == FACE.size(), "the face has other members than the document's");
        for (ExecutableElement method : walk.methods) {
            String name = method.getSimpleName().toString();
            boolean isPrivate = method.getKind() == ElementKind.METHOD && method.getModifiers().contains(Modifier.PRIVATE);
            rule(1, !isPrivate || !walk.faceNames.contains(name), "a private method " + name);
        }
    }

    private static Set<ExecutableElement> reached(Walk walk, ExecutableElement from) {
        Set<ExecutableElement> reached = new LinkedHashSet<>();
        List<ExecutableElement> due = new ArrayList<>(walk.calls.getOrDefault(from, Set.of()));
        while (!due.isEmpty()) {
            ExecutableElement next = due.remove(due.size() - 1);
            if (reached.add(next)) {
                due.addAll(walk.calls.getOrDefault(next, Set.of()));
            }
        }
        return reached;
    }

    private static void recursion(Walk walk, Map<ExecutableElement, Set<ExecutableElement>> reach) {
        int recursive = 0;
        for (ExecutableElement method : walk.methods) {
            boolean isRecursive = reach.get(method).contains(method);
            recursive += isRecursive ? 1 : 0;
            rule(8, !isRecursive || method.getModifiers().contains(Modifier.PRIVATE), "recursion through " + method + ", which is not private");
        }
        rule(8, recursive > 0, "no recursion is seen, so that nothing was looked at");
    }

    /** How many calls stand open at the most, with methods that call one another counted as one. */
    private static int depth(Walk walk, Map<ExecutableElement, Set<ExecutableElement>> reach, ExecutableElement method,
            Map<ExecutableElement, Integer> known) {
        if (known.containsKey(method)) {
            return known.get(method);
        }
        Set<ExecutableElement> group = new LinkedHashSet<>(Set.of(method));
        for (ExecutableElement other : reach.getOrDefault(method, Set.of())) {
            if (reach.getOrDefault(other, Set.of()).contains(method)) {
                group.add(other);
            }
        }
        int deepest = 0;
        for (ExecutableElement member : group) {
            for (ExecutableElement called : walk.calls.getOrDefault(member, Set.of())) {
                deepest = group.contains(called) ? deepest : Math.max(deepest, depth(walk, reach, called, known));
            }
        }
        for (ExecutableElement member : group) {
            known.put(member, deepest + 1);
        }
        return deepest + 1;
    }

    private static void depths(Walk walk, Map<ExecutableElement, Set<ExecutableElement>> reach) {
        Map<ExecutableElement, Integer> known = new HashMap<>();
        for (ExecutableElement method : walk.methods) {
            int deep = depth(walk, reach, method, known);
            rule(11, deep <= MOST_DEEP, method + " goes " + deep + " calls deep");
        }
    }

    public static void main(String[] args) throws Exception {
        JavaCompiler compiler = ToolProvider.getSystemJavaCompiler();
        StandardJavaFileManager files = compiler.getStandardFileManager(null, null, null);
        JavacTask task = (JavacTask) compiler.getTask(null, files, null, List.of("-proc:none"), null,
                files.getJavaFileObjects(new File(SOURCE)));
        CompilationUnitTree unit = task.parse().iterator().next();
        task.analyze();
        rule(1, unit.getPackageName() == null && unit.getTypeDecls().size() == 1, "one class, without a package");
        Walk walk = new Walk(Trees.instance(task), unit);
        walk.scan(unit, null);
        Map<ExecutableElement, Set<ExecutableElement>> reach = new HashMap<>();
        for (ExecutableElement method : walk.methods) {
            reach.put(method, reached(walk, method));
        }
        names(walk);
        recursion(walk, reach);
        depths(walk, reach);
        System.out.println(wrong == 0 ? looked + " places keep to the rules" : wrong + " places break a rule");
        System.exit(wrong == 0 ? 0 : 1);
    }
}
