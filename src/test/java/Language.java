import com.sun.source.tree.BinaryTree;
import com.sun.source.tree.BlockTree;
import com.sun.source.tree.ClassTree;
import com.sun.source.tree.CompilationUnitTree;
import com.sun.source.tree.DoWhileLoopTree;
import com.sun.source.tree.ExpressionTree;
import com.sun.source.tree.ForLoopTree;
import com.sun.source.tree.IdentifierTree;
import com.sun.source.tree.LiteralTree;
import com.sun.source.tree.MemberSelectTree;
import com.sun.source.tree.MethodTree;
import com.sun.source.tree.NewArrayTree;
import com.sun.source.tree.NewClassTree;
import com.sun.source.tree.Tree;
import com.sun.source.tree.VariableTree;
import com.sun.source.tree.WhileLoopTree;
import com.sun.source.util.JavacTask;
import com.sun.source.util.SourcePositions;
import com.sun.source.util.TreePath;
import com.sun.source.util.TreePathScanner;
import com.sun.source.util.Trees;
import java.io.IOException;
import java.net.URI;
import java.util.ArrayDeque;
import java.util.ArrayList;
import java.util.Deque;
import java.util.LinkedHashMap;
import java.util.LinkedHashSet;
import java.util.List;
import java.util.Map;
import java.util.Set;
import javax.lang.model.element.Element;
import javax.lang.model.element.ElementKind;
import javax.lang.model.element.ExecutableElement;
import javax.lang.model.element.Modifier;
import javax.lang.model.element.VariableElement;
import javax.lang.model.type.ArrayType;
import javax.lang.model.type.DeclaredType;
import javax.lang.model.type.TypeKind;
import javax.lang.model.type.TypeMirror;
import javax.tools.DiagnosticCollector;
import javax.tools.JavaFileObject;
import javax.tools.SimpleJavaFileObject;
import javax.tools.ToolProvider;

/**
 * Reads a program as the compiler does and tells what in it breaks a rule of
 * ../shared/LANGUAGE.md. What the rules leave but the class has no use for (lists, enums,
 * interfaces, doubles, objects made by calls) is told, too: who needs it opens it here.
 */
final class Language extends TreePathScanner<Void, Void> {
    private static final int MOST_PARAMETERS = 7, MOST_LINES = 60, MOST_DEPTH = 8, MOST_CLASSES = 12, MOST_FIELDS = 20;
    private static final Map<Tree.Kind, Integer> NOT_THERE = Map.ofEntries(
        Map.entry(Tree.Kind.INTERFACE, 2), Map.entry(Tree.Kind.ENUM, 2), Map.entry(Tree.Kind.RECORD, 2),
        Map.entry(Tree.Kind.LAMBDA_EXPRESSION, 2), Map.entry(Tree.Kind.MEMBER_REFERENCE, 2),
        Map.entry(Tree.Kind.IMPORT, 4), Map.entry(Tree.Kind.ANNOTATION, 4), Map.entry(Tree.Kind.INSTANCE_OF, 6),
        Map.entry(Tree.Kind.THROW, 6), Map.entry(Tree.Kind.TRY, 6), Map.entry(Tree.Kind.ASSERT, 6),
        Map.entry(Tree.Kind.SYNCHRONIZED, 6));
    private static final Set<String> LIBRARY = Set.of("java.lang.System.arraycopy", "java.util.Arrays.fill",
        "java.lang.String.length", "java.lang.String.charAt", "java.lang.String.isEmpty", "java.lang.String.equals");
    private static final Set<String> FIGURES = Set.of("java.lang.Math", "java.lang.Integer", "java.lang.Long");

    private final Trees trees;
    private final SourcePositions places;
    private final CompilationUnitTree unit;
    private final Set<String> breaches = new LinkedHashSet<>();
    private final Map<Element, Set<ExecutableElement>> calls = new LinkedHashMap<>();
    private int classes = 0;

    private Language(JavacTask task, CompilationUnitTree unit) {
        this.trees = Trees.instance(task);
        this.places = trees.getSourcePositions();
        this.unit = unit;
    }

    /** What breaks a rule, each told by the rule's number, its line and what stands there. */
    static Set<String> breaches(String source) throws IOException {
        DiagnosticCollector<JavaFileObject> errors = new DiagnosticCollector<>();
        JavacTask task = (JavacTask) ToolProvider.getSystemJavaCompiler()
            .getTask(null, null, errors, List.of("-proc:none"), null, List.of(new Source(source)));
        CompilationUnitTree unit = task.parse().iterator().next();
        task.analyze();
        Language language = new Language(task, unit);
        language.scan(unit, null);
        for (Element method : language.calls.keySet()) {
            language.open(method, new ArrayDeque<>());
        }
        errors.getDiagnostics().forEach(error -> language.breaches.add("no program: " + error));
        return language.breaches;
    }

    private static final class Source extends SimpleJavaFileObject {
        private final String source;

        Source(String source) {
            super(URI.create("string:///NeighbourWires.java"), Kind.SOURCE);
            this.source = source;
        }

        @Override
        public CharSequence getCharContent(boolean ignoreEncodingErrors) {
            return source;
        }
    }

    private void ask(boolean holds, int rule, Tree tree) {
        if (!holds) {
            String told = tree.toString().strip().replaceAll("\\s+", " ");
            breaches.add("rule " + rule + ", line " + line(places.getStartPosition(unit, tree)) + ": "
                + told.substring(0, Math.min(60, told.length())));
        }
    }

    private long line(long position) {
        return position < 0 ? 0 : unit.getLineMap().getLineNumber(position);
    }

    private Element here() {
        return trees.getElement(getCurrentPath());
    }

    @Override
    public Void scan(Tree tree, Void v) {
        if (tree != null) {
            ask(!NOT_THERE.containsKey(tree.getKind()), NOT_THERE.getOrDefault(tree.getKind(), 0), tree);
        }
        return super.scan(tree, v);
    }

    // ---- classes, methods, fields

    @Override
    public Void visitCompilationUnit(CompilationUnitTree tree, Void v) {
        ask(tree.getPackage() == null && tree.getTypeDecls().size() == 1, 1, tree);
        return super.visitCompilationUnit(tree, v);
    }

    @Override
    public Void visitClass(ClassTree tree, Void v) {
        Tree around = getCurrentPath().getParentPath().getLeaf();
        Set<Modifier> modifiers = tree.getModifiers().getFlags();
        boolean isHidden = !modifiers.contains(Modifier.PUBLIC) && !modifiers.contains(Modifier.PROTECTED);
        ask(around != unit || modifiers.equals(Set.of(Modifier.PUBLIC, Modifier.FINAL)), 1, tree);
        ask(around == unit || around instanceof ClassTree && modifiers.contains(Modifier.STATIC) && isHidden, 2, tree);
        int fields = 0;
        for (Tree member : tree.getMembers()) {
            ask(!(member instanceof BlockTree), 5, member);
            boolean isField = member instanceof VariableTree;
            fields += isField && !((VariableTree) member).getModifiers().getFlags().contains(Modifier.STATIC) ? 1 : 0;
        }
        classes++;
        ask(fields <= MOST_FIELDS && classes <= MOST_CLASSES, 11, tree);
        return super.visitClass(tree, v);
    }

    @Override
    public Void visitMethod(MethodTree tree, Void v) {
        calls.putIfAbsent(here(), new LinkedHashSet<>());
        long lines = line(places.getEndPosition(unit, tree)) - line(places.getStartPosition(unit, tree));
        ask(lines < MOST_LINES && tree.getParameters().size() <= MOST_PARAMETERS, 11, tree);
        ask(!Set.of("equals", "hashCode", "toString").contains(tree.getName().toString()), 6, tree);
        ask(tree.getThrows().isEmpty() && !here().getModifiers().contains(Modifier.SYNCHRONIZED), 6, tree);
        return super.visitMethod(tree, v);
    }

    @Override
    public Void visitVariable(VariableTree tree, Void v) {
        VariableElement variable = (VariableElement) here();
        ask(isFree(variable.asType()), 3, tree);
        ask(!variable.getModifiers().contains(Modifier.STATIC) || variable.getConstantValue() != null, 5, tree);
        return super.visitVariable(tree, v);
    }

    private boolean isFree(TypeMirror type) {
        if (type instanceof ArrayType array) {
            TypeMirror part = array.getComponentType();
            return part.getKind() != TypeKind.ARRAY && !isText(part) && isFree(part);
        }
        if (type instanceof DeclaredType declared) {
            return isOwn(declared.asElement()) || isText(type);
        }
        return type.getKind().isPrimitive() && type.getKind() != TypeKind.DOUBLE && type.getKind() != TypeKind.FLOAT;
    }

    private boolean isOwn(Element element) {
        TreePath path = trees.getPath(element);
        return path != null && path.getCompilationUnit() == unit;
    }

    private static boolean isText(TypeMirror type) {
        return type != null && type.toString().equals("java.lang.String");
    }

    // ---- what is taken of the library

    @Override
    public Void visitIdentifier(IdentifierTree tree, Void v) {
        used(tree);
        return super.visitIdentifier(tree, v);
    }

    @Override
    public Void visitMemberSelect(MemberSelectTree tree, Void v) {
        TypeMirror type = trees.getTypeMirror(new TreePath(getCurrentPath(), tree.getExpression()));
        if (type == null || type.getKind() != TypeKind.ARRAY || !tree.getIdentifier().contentEquals("length")) {
            used(tree);
        }
        return super.visitMemberSelect(tree, v);
    }

    private void used(Tree tree) {
        Element element = here();
        if (element instanceof ExecutableElement method) {
            called(method, tree);
        } else if (element != null && element.getKind().isField()) {
            boolean isThis = element.getSimpleName().contentEquals("this");
            ask(isThis || isOwn(element), 4, tree);
        }
    }

    private void called(ExecutableElement method, Tree tree) {
        String owner = method.getEnclosingElement().toString();
        if (isOwn(method)) {
            calls.computeIfAbsent(caller(), from -> new LinkedHashSet<>()).add(method);
        } else if (!tree.toString().equals("super")) {
            boolean isListed = LIBRARY.contains(owner + "." + method.getSimpleName());
            ask(isListed || FIGURES.contains(owner) && isOverFigures(method), 4, tree);
        }
    }

    private static boolean isOverFigures(ExecutableElement method) {
        List<TypeMirror> types = new ArrayList<>(List.of(method.getReturnType()));
        method.getParameters().forEach(parameter -> types.add(parameter.asType()));
        boolean over = types.stream().allMatch(t -> t.getKind() == TypeKind.INT || t.getKind() == TypeKind.LONG);
        boolean isStatic = method.getModifiers().contains(Modifier.STATIC);
        return over && isStatic && !method.getSimpleName().toString().endsWith("Exact");
    }

    /** The method that is read, or the class, if it is a field's first value. */
    private Element caller() {
        TreePath path = getCurrentPath();
        while (!(path.getLeaf() instanceof MethodTree) && !(path.getLeaf() instanceof ClassTree)) {
            path = path.getParentPath();
        }
        return trees.getElement(path);
    }

    @Override
    public Void visitLiteral(LiteralTree tree, Void v) {
        boolean isText = tree.getValue() instanceof String;
        ask(!isText || ((String) tree.getValue()).chars().allMatch(sign -> sign >= 1 && sign <= 127), 4, tree);
        return super.visitLiteral(tree, v);
    }

    @Override
    public Void visitBinary(BinaryTree tree, Void v) {
        boolean isOfTexts = isOfText(tree.getLeftOperand()) || isOfText(tree.getRightOperand());
        ask(!isOfTexts || tree.getKind() != Tree.Kind.PLUS, 10, tree);
        ask(!isOfTexts || tree.getKind() == Tree.Kind.PLUS, 6, tree);
        return super.visitBinary(tree, v);
    }

    private boolean isOfText(ExpressionTree operand) {
        return isText(trees.getTypeMirror(new TreePath(getCurrentPath(), operand)));
    }

    // ---- loops, and calls that stand open at once

    @Override
    public Void visitForLoop(ForLoopTree tree, Void v) {
        ask(hasBound(tree.getCondition()), 9, tree);
        return super.visitForLoop(tree, v);
    }

    @Override
    public Void visitWhileLoop(WhileLoopTree tree, Void v) {
        ask(hasBound(tree.getCondition()), 9, tree);
        return super.visitWhileLoop(tree, v);
    }

    @Override
    public Void visitDoWhileLoop(DoWhileLoopTree tree, Void v) {
        ask(hasBound(tree.getCondition()), 9, tree);
        return super.visitDoWhileLoop(tree, v);
    }

    /** That the counter moves on is not seen here; that it is held against something is. */
    private static boolean hasBound(ExpressionTree condition) {
        return condition != null && condition.toString().matches(".*[<>].*");
    }

    private void open(Element method, Deque<Element> standing) {
        standing.addLast(method);
        if (standing.size() > MOST_DEPTH) {
            breaches.add("rule 11: " + standing + " stand open at once");
        }
        for (ExecutableElement next : calls.getOrDefault(method, Set.of())) {
            boolean isHelper = next.getModifiers().containsAll(Set.of(Modifier.PRIVATE, Modifier.STATIC));
            if (!standing.contains(next)) {
                open(next, standing);
            } else if (next != method || !isHelper) {
                breaches.add("rule 8: " + standing + " lead back to " + next);
            }
        }
        standing.removeLast();
    }

    // ---- what is made

    @Override
    public Void visitNewClass(NewClassTree tree, Void v) {
        if (here() instanceof ExecutableElement constructor) {
            called(constructor, tree);
        }
        made(tree);
        return super.visitNewClass(tree, v);
    }

    @Override
    public Void visitNewArray(NewArrayTree tree, Void v) {
        made(tree);
        return super.visitNewArray(tree, v);
    }

    private void made(Tree tree) {
        ask(caller().getKind() == ElementKind.CONSTRUCTOR || caller().getKind() == ElementKind.CLASS, 12, tree);
    }
}
