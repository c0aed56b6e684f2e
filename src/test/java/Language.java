import com.sun.source.tree.AnnotationTree;
import com.sun.source.tree.AssertTree;
import com.sun.source.tree.BinaryTree;
import com.sun.source.tree.BlockTree;
import com.sun.source.tree.ClassTree;
import com.sun.source.tree.CompilationUnitTree;
import com.sun.source.tree.CompoundAssignmentTree;
import com.sun.source.tree.DoWhileLoopTree;
import com.sun.source.tree.ExpressionTree;
import com.sun.source.tree.ForLoopTree;
import com.sun.source.tree.IdentifierTree;
import com.sun.source.tree.ImportTree;
import com.sun.source.tree.LambdaExpressionTree;
import com.sun.source.tree.LiteralTree;
import com.sun.source.tree.MemberReferenceTree;
import com.sun.source.tree.MemberSelectTree;
import com.sun.source.tree.MethodInvocationTree;
import com.sun.source.tree.MethodTree;
import com.sun.source.tree.NewArrayTree;
import com.sun.source.tree.NewClassTree;
import com.sun.source.tree.SwitchExpressionTree;
import com.sun.source.tree.SwitchTree;
import com.sun.source.tree.SynchronizedTree;
import com.sun.source.tree.ThrowTree;
import com.sun.source.tree.Tree;
import com.sun.source.tree.TryTree;
import com.sun.source.tree.TypeCastTree;
import com.sun.source.tree.VariableTree;
import com.sun.source.tree.WhileLoopTree;
import com.sun.source.util.JavacTask;
import com.sun.source.util.TreePath;
import com.sun.source.util.TreePathScanner;
import com.sun.source.util.Trees;
import java.io.IOException;
import java.net.URI;
import java.util.ArrayList;
import java.util.LinkedHashMap;
import java.util.LinkedHashSet;
import java.util.List;
import java.util.Map;
import java.util.Set;
import java.util.TreeSet;
import java.util.regex.Matcher;
import java.util.regex.Pattern;
import javax.lang.model.element.Element;
import javax.lang.model.element.ElementKind;
import javax.lang.model.element.ExecutableElement;
import javax.lang.model.element.Modifier;
import javax.lang.model.element.TypeElement;
import javax.lang.model.element.VariableElement;
import javax.lang.model.type.ArrayType;
import javax.lang.model.type.DeclaredType;
import javax.lang.model.type.TypeKind;
import javax.lang.model.type.TypeMirror;
import javax.lang.model.util.Elements;
import javax.tools.DiagnosticCollector;
import javax.tools.JavaFileObject;
import javax.tools.SimpleJavaFileObject;
import javax.tools.ToolProvider;

/**
 * The rules of ../shared/LANGUAGE.md, as far as they can be told from the class's tree. Where a rule allows what the
 * class does not use (recursion, casts among classes, objects made by methods), it is stricter than the rule.
 */
final class Language extends TreePathScanner<Void, Void> {
    private static final String CLASS = "CoilWheels";
    private static final int MOST_PARAMETERS = 7, MOST_LINES = 60, DEEPEST = 8, MOST_CLASSES = 12, MOST_FIELDS = 20;

    /** What rule 4 lists; of Integer, Long and Math all over int and long but the Exact ones. */
    private static final Map<String, Set<String>> LIBRARY = Map.of(
        "java.lang.String", Set.of("length", "charAt", "isEmpty", "equals", "indexOf", "substring", "toCharArray"),
        "java.lang.StringBuilder", Set.of("append", "charAt", "setCharAt", "setLength", "deleteCharAt", "reverse", "length", "toString"),
        "java.util.ArrayList", Set.of("add", "get", "set", "remove", "size", "isEmpty", "clear"),
        "java.util.List", Set.of("add", "get", "set", "remove", "size", "isEmpty", "clear", "of"),
        "java.lang.System", Set.of("arraycopy"),
        "java.util.Arrays", Set.of("copyOf", "copyOfRange", "fill"));
    private static final Set<String> NUMBER_FUNCTIONS = Set.of("java.lang.Integer", "java.lang.Long", "java.lang.Math");
    private static final Set<String> CLASSES = Set.of("java.lang.String", "java.lang.StringBuilder");
    private static final Set<String> LISTS = Set.of("java.util.ArrayList", "java.util.List");

    private final String source;
    private final Set<String> face;
    private final List<String> faults = new ArrayList<>();
    private final Map<Element, Set<Element>> calls = new LinkedHashMap<>();
    private final Set<String> publicNames = new TreeSet<>();
    private final Set<String> otherNames = new TreeSet<>();
    private final Set<String> faceFound = new TreeSet<>();
    private Trees trees;
    private Elements elements;
    private CompilationUnitTree unit;
    private int classes;

    private Language(String source, Set<String> face) {
        this.source = source;
        this.face = face;
    }

    /** What is against the rules in a text, each with its rule's number ahead; the document tells the face. */
    static List<String> faults(String source, String document) throws IOException {
        Language language = new Language(source, faceOf(document));
        language.look();
        return language.faults;
    }

    /** The calls and constants of "The public face", by types alone, as what an argument is called is free. */
    private static Set<String> faceOf(String document) {
        Matcher block = Pattern.compile("(?s)## The public face\\s+```java\n(.*?)```").matcher(document);
        Set<String> face = new TreeSet<>();
        if (!block.find()) {
            return face;
        }
        Matcher call = Pattern.compile("public (?:(int|long) )?(\\w+)\\(([^)]*)\\);").matcher(block.group(1));
        while (call.find()) {
            String answer = call.group(1) == null ? "new" : call.group(1);
            face.add(answer + " " + call.group(2) + "(" + call.group(3).replaceAll("(\\w+) \\w+", "$1").replace(" ", "") + ")");
        }
        Matcher constant = Pattern.compile("(\\w+) = (-?[0-9]+)").matcher(block.group(1));
        while (constant.find()) {
            face.add("int " + constant.group(1) + " = " + constant.group(2));
        }
        return face;
    }

    private void look() throws IOException {
        JavaFileObject file = new SimpleJavaFileObject(URI.create("string:///" + CLASS + ".java"), JavaFileObject.Kind.SOURCE) {
            @Override
            public CharSequence getCharContent(boolean ignoreEncodingErrors) {
                return source;
            }
        };
        DiagnosticCollector<JavaFileObject> said = new DiagnosticCollector<>();
        JavacTask task = (JavacTask) ToolProvider.getSystemJavaCompiler().getTask(null, null, said,
            List.of("-proc:none", "-source", "17", "-Xlint:-options"), null, List.of(file));
        unit = task.parse().iterator().next();
        task.analyze();
        said.getDiagnostics().forEach(d -> faults.add("0 " + d));
        trees = Trees.instance(task);
        elements = task.getElements();
        if (unit.getPackageName() != null || unit.getTypeDecls().size() != 1) {
            faults.add("1 a package, or more than one class");
        }
        scan(unit, null);
        if (!faceFound.equals(face)) {
            faults.add("1 the face is " + faceFound + ", not " + face);
        }
        publicNames.retainAll(otherNames);
        if (!publicNames.isEmpty()) {
            faults.add("1 names of public methods are borne by others: " + publicNames);
        }
        if (classes > MOST_CLASSES) {
            faults.add("11 more than twelve classes: " + classes);
        }
        for (Element caller : calls.keySet()) {
            goDown(caller, new LinkedHashSet<>());
        }
    }

    private void against(int rule, String what, Tree tree) {
        long start = trees.getSourcePositions().getStartPosition(unit, tree);
        long line = start < 0 ? 0 : unit.getLineMap().getLineNumber(start);
        faults.add(rule + " line " + line + ": " + what);
    }

    private void goDown(Element caller, LinkedHashSet<Element> open) {
        if (!open.add(caller)) {
            faults.add("8 recursion: " + open + " and " + caller + " again");
            return;
        }
        if (open.size() > DEEPEST) {
            faults.add("11 calls that go too deep: " + open);
        } else {
            for (Element called : calls.getOrDefault(caller, Set.of())) {
                goDown(called, open);
            }
        }
        open.remove(caller);
    }

    // ---- what stands around a place

    private Element here() {
        return trees.getElement(getCurrentPath());
    }

    private Tree around() {
        return getCurrentPath().getParentPath().getLeaf();
    }

    private TypeMirror typeOf(Tree tree) {
        return trees.getTypeMirror(new TreePath(getCurrentPath(), tree));
    }

    /** The method or the constructor around a place, or null in a field's value. */
    private MethodTree method() {
        for (TreePath p = getCurrentPath(); p != null; p = p.getParentPath()) {
            if (p.getLeaf() instanceof MethodTree m) {
                return m;
            }
        }
        return null;
    }

    private String text(Tree tree) {
        int start = (int) trees.getSourcePositions().getStartPosition(unit, tree);
        int end = (int) trees.getSourcePositions().getEndPosition(unit, tree);
        return start < 0 || end < start ? "" : source.substring(start, end);
    }

    private boolean isOurs(Element e) {
        Element outermost = e;
        while (outermost.getEnclosingElement() != null && outermost.getEnclosingElement().getKind() != ElementKind.PACKAGE) {
            outermost = outermost.getEnclosingElement();
        }
        return outermost.getSimpleName().contentEquals(CLASS);
    }

    private static boolean isName(TypeMirror type, String name) {
        return type.toString().equals(name);
    }

    // ---- rules 1, 2, 11: classes and their members

    @Override
    public Void visitImport(ImportTree tree, Void none) {
        if (!Set.of("java.util.ArrayList", "java.util.List", "java.util.Arrays", "java.util.Iterator")
            .contains(tree.getQualifiedIdentifier().toString())) {
            against(4, tree.toString(), tree);
        }
        return super.visitImport(tree, none);
    }

    @Override
    public Void visitClass(ClassTree tree, Void none) {
        classes++;
        Element e = here();
        Set<Modifier> modifiers = e.getModifiers();
        boolean outermost = around() == unit;
        if (outermost && !(modifiers.contains(Modifier.PUBLIC) && modifiers.contains(Modifier.FINAL) && e.getSimpleName().contentEquals(CLASS))) {
            against(1, "not the public final class " + CLASS, tree);
        }
        if (!outermost && !(around() instanceof ClassTree)) {
            against(2, "a local or an anonymous class", tree);
        } else if (!outermost && !modifiers.contains(Modifier.STATIC)) {
            against(2, e + " is not static", tree);
        }
        if (!outermost && (modifiers.contains(Modifier.PUBLIC) || modifiers.contains(Modifier.PROTECTED))) {
            against(1, e + " is public or protected", tree);
        }
        int fields = 0;
        for (Tree member : tree.getMembers()) {
            if (member instanceof VariableTree v && !v.getModifiers().getFlags().contains(Modifier.STATIC)) {
                fields++;
            }
            if (member instanceof BlockTree block) {
                against(5, block.isStatic() ? "a static initialiser" : "an initialiser", block);
            }
        }
        if (fields > MOST_FIELDS) {
            against(11, e + " has " + fields + " fields", tree);
        }
        return super.visitClass(tree, none);
    }

    @Override
    public Void visitMethod(MethodTree tree, Void none) {
        ExecutableElement e = (ExecutableElement) here();
        if (elements.getOrigin(e) == Elements.Origin.EXPLICIT) {
            boolean ofTheFace = e.getEnclosingElement().getSimpleName().contentEquals(CLASS)
                && !e.getModifiers().contains(Modifier.PRIVATE);
            if (ofTheFace) {
                List<String> types = new ArrayList<>();
                e.getParameters().forEach(p -> types.add(p.asType().toString()));
                boolean made = e.getKind() == ElementKind.CONSTRUCTOR;
                faceFound.add((made ? "new " + CLASS : e.getReturnType() + " " + e.getSimpleName()) + "(" + String.join(",", types) + ")");
                if (!e.getModifiers().equals(Set.of(Modifier.PUBLIC))) {
                    against(1, e + " is not just public", tree);
                }
            }
            (ofTheFace ? publicNames : otherNames).add(e.getSimpleName().toString());
            publicNames.remove("<init>");
            size(tree, e);
            if (!e.getThrownTypes().isEmpty()) {
                against(6, e + " throws", tree);
            }
            if (e.getKind() == ElementKind.METHOD && e.getReturnType().getKind() != TypeKind.VOID) {
                mayStand(e.getReturnType(), tree);
            }
        }
        return super.visitMethod(tree, none);
    }

    private void size(MethodTree tree, ExecutableElement e) {
        if (e.getParameters().size() > MOST_PARAMETERS) {
            against(11, e + " has too many parameters", tree);
        }
        if (text(tree).lines().count() > MOST_LINES) {
            against(11, e + " is too long", tree);
        }
    }

    @Override
    public Void visitLambdaExpression(LambdaExpressionTree tree, Void none) {
        against(2, "a lambda", tree);
        return super.visitLambdaExpression(tree, none);
    }

    @Override
    public Void visitMemberReference(MemberReferenceTree tree, Void none) {
        against(2, "a method reference", tree);
        return super.visitMemberReference(tree, none);
    }

    // ---- rules 3, 5: types and static fields

    @Override
    public Void visitVariable(VariableTree tree, Void none) {
        Element e = here();
        if (e instanceof VariableElement v && v.getKind() != ElementKind.ENUM_CONSTANT) {
            mayStand(v.asType(), tree);
            if (v.getKind() == ElementKind.FIELD) {
                field(tree, v);
            }
        }
        return super.visitVariable(tree, none);
    }

    private void field(VariableTree tree, VariableElement v) {
        boolean outermost = v.getEnclosingElement().getSimpleName().contentEquals(CLASS);
        Set<Modifier> modifiers = v.getModifiers();
        if (outermost && !modifiers.contains(Modifier.PRIVATE)) {
            faceFound.add(v.asType() + " " + v.getSimpleName() + " = " + v.getConstantValue());
            if (!modifiers.equals(Set.of(Modifier.PUBLIC, Modifier.STATIC, Modifier.FINAL))) {
                against(1, v + " is no public constant", tree);
            }
        }
        if (modifiers.contains(Modifier.STATIC)) {
            boolean constant = v.getConstantValue() != null
                && Set.of("int", "long", "boolean", "char", "java.lang.String").contains(v.asType().toString());
            boolean writtenOut = tree.getInitializer() instanceof NewArrayTree a && a.getInitializers() != null
                && Set.of("int[]", "long[]", "char[]", "byte[]").contains(v.asType().toString());
            if (!modifiers.contains(Modifier.FINAL) || !constant && !writtenOut) {
                against(5, v + " is no constant", tree);
            }
        }
        if (v.getEnclosingElement().getKind() == ElementKind.ENUM
            && !Set.of("int", "long", "boolean", "java.lang.String").contains(v.asType().toString())) {
            against(2, v + " is a field of an enum", tree);
        }
    }

    private void mayStand(TypeMirror type, Tree tree) {
        if (!isAllowed(type)) {
            against(3, "the type " + type, tree);
        }
    }

    private boolean isAllowed(TypeMirror type) {
        if (type.getKind().isPrimitive() || type.getKind() == TypeKind.TYPEVAR) {
            return true;
        }
        if (type instanceof ArrayType row) {
            TypeMirror of = row.getComponentType();
            return of.getKind().isPrimitive() || isOurClass(of)
                || of instanceof ArrayType inner && inner.getComponentType().getKind().isPrimitive();
        }
        if (!(type instanceof DeclaredType declared)) {
            return false;
        }
        String name = ((TypeElement) declared.asElement()).getQualifiedName().toString();
        if (LISTS.contains(name)) {
            List<? extends TypeMirror> of = declared.getTypeArguments();
            return of.size() == 1 && (isOurClass(of.get(0)) || isName(of.get(0), "java.lang.Integer"));
        }
        return isOurClass(type) || CLASSES.contains(name);
    }

    private boolean isOurClass(TypeMirror type) {
        return type instanceof DeclaredType declared && isOurs(declared.asElement());
    }

    // ---- rules 4, 6, 8, 12, 13: calls and what is made

    @Override
    public Void visitMethodInvocation(MethodInvocationTree tree, Void none) {
        ExecutableElement called = (ExecutableElement) trees.getElement(new TreePath(getCurrentPath(), tree.getMethodSelect()));
        if (called.getKind() == ElementKind.METHOD) {
            TypeElement owner = (TypeElement) called.getEnclosingElement();
            if (isOurs(owner)) {
                noteCall(called, tree);
            } else if (!isOfTheLibrary(called, owner.getQualifiedName().toString(), tree)) {
                against(4, "the call " + tree, tree);
            }
        }
        return super.visitMethodInvocation(tree, none);
    }

    private void noteCall(ExecutableElement called, Tree tree) {
        MethodTree caller = method();
        if (caller == null) {
            against(5, "a field's value is called for", tree);
            return;
        }
        Element from = trees.getElement(trees.getPath(unit, caller));
        calls.computeIfAbsent(from, c -> new LinkedHashSet<>()).add(called);
        boolean canBeOverridden = called.getModifiers().stream().noneMatch(Set.of(Modifier.PRIVATE, Modifier.STATIC, Modifier.FINAL)::contains)
            && !called.getEnclosingElement().getModifiers().contains(Modifier.FINAL);
        if (from.getKind() == ElementKind.CONSTRUCTOR && canBeOverridden) {
            against(12, "a constructor calls " + called, tree);
        }
    }

    private boolean isOfTheLibrary(ExecutableElement called, String owner, MethodInvocationTree tree) {
        String name = called.getSimpleName().toString();
        if (NUMBER_FUNCTIONS.contains(owner)) {
            boolean numbers = called.getModifiers().contains(Modifier.STATIC) && Set.of("int", "long").contains(called.getReturnType().toString());
            for (VariableElement p : called.getParameters()) {
                numbers &= Set.of("int", "long").contains(p.asType().toString());
            }
            return numbers && !name.endsWith("Exact");
        }
        if (name.equals("clone")) {
            return tree.getMethodSelect() instanceof MemberSelectTree m && typeOf(m.getExpression()) instanceof ArrayType;
        }
        if (owner.equals("java.lang.StringBuilder") && name.equals("append")) {
            return Set.of("char", "java.lang.String", "int").contains(called.getParameters().get(0).asType().toString());
        }
        return LIBRARY.getOrDefault(owner, Set.of()).contains(name);
    }

    @Override
    public Void visitNewClass(NewClassTree tree, Void none) {
        made(tree);
        Element constructor = here();
        mayStand(typeOf(tree.getIdentifier()), tree);
        MethodTree maker = method();
        if (constructor != null && isOurs(constructor) && maker != null) {
            calls.computeIfAbsent(trees.getElement(trees.getPath(unit, maker)), c -> new LinkedHashSet<>()).add(constructor);
        }
        return super.visitNewClass(tree, none);
    }

    @Override
    public Void visitNewArray(NewArrayTree tree, Void none) {
        made(tree);
        return super.visitNewArray(tree, none);
    }

    /** All calls live in one room, so that only constructors make what they use. */
    private void made(Tree tree) {
        MethodTree maker = method();
        if (maker != null && maker.getReturnType() != null) {
            against(12, maker.getName() + " makes " + tree, tree);
        }
    }

    @Override
    public Void visitIdentifier(IdentifierTree tree, Void none) {
        MethodTree m = method();
        boolean used = around() instanceof MemberSelectTree
            || around() instanceof MethodInvocationTree call && call.getMethodSelect() == tree;
        if (tree.getName().contentEquals("this") && m != null && m.getReturnType() == null && !used) {
            against(12, "a constructor hands out its object", tree);
        }
        return super.visitIdentifier(tree, none);
    }

    @Override
    public Void visitAnnotation(AnnotationTree tree, Void none) {
        against(4, tree.toString(), tree);
        return super.visitAnnotation(tree, none);
    }

    @Override
    public Void visitLiteral(LiteralTree tree, Void none) {
        String all = tree.getValue() instanceof String || tree.getValue() instanceof Character ? tree.getValue().toString() : "";
        if (all.chars().anyMatch(c -> c < 1 || c > 127)) {
            against(4, "a sign beyond 1 to 127", tree);
        }
        return super.visitLiteral(tree, none);
    }

    @Override
    public Void visitThrow(ThrowTree tree, Void none) {
        against(6, "throw", tree);
        return super.visitThrow(tree, none);
    }

    @Override
    public Void visitTry(TryTree tree, Void none) {
        against(6, "try", tree);
        return super.visitTry(tree, none);
    }

    @Override
    public Void visitSynchronized(SynchronizedTree tree, Void none) {
        against(6, "synchronized", tree);
        return super.visitSynchronized(tree, none);
    }

    @Override
    public Void visitAssert(AssertTree tree, Void none) {
        against(6, "assert", tree);
        return super.visitAssert(tree, none);
    }

    @Override
    public Void visitTypeCast(TypeCastTree tree, Void none) {
        if (!typeOf(tree.getType()).getKind().isPrimitive()) {
            against(6, "a cast to a class", tree);
        }
        return super.visitTypeCast(tree, none);
    }

    // ---- rules 6, 7, 10: what stands between two values

    @Override
    public Void visitBinary(BinaryTree tree, Void none) {
        TypeMirror left = typeOf(tree.getLeftOperand());
        TypeMirror right = typeOf(tree.getRightOperand());
        switch (tree.getKind()) {
            case EQUAL_TO, NOT_EQUAL_TO -> {
                for (String boxed : List.of("java.lang.String", "java.lang.Integer")) {
                    if (isName(left, boxed) && isName(right, boxed)) {
                        against(6, tree.toString(), tree);
                    }
                }
            }
            case PLUS -> {
                if (isName(left, "java.lang.String") || isName(right, "java.lang.String")) {
                    against(10, "texts joined by +", tree);
                }
            }
            case DIVIDE, REMAINDER -> divisor(tree.getRightOperand());
            default -> { }
        }
        return super.visitBinary(tree, none);
    }

    @Override
    public Void visitCompoundAssignment(CompoundAssignmentTree tree, Void none) {
        switch (tree.getKind()) {
            case PLUS_ASSIGNMENT -> {
                if (isName(typeOf(tree.getVariable()), "java.lang.String")) {
                    against(10, "texts joined by +=", tree);
                }
            }
            case DIVIDE_ASSIGNMENT, REMAINDER_ASSIGNMENT -> divisor(tree.getExpression());
            default -> { }
        }
        return super.visitCompoundAssignment(tree, none);
    }

    /** A number other than 0, or a name that the same method holds against 0 or takes as at least 1. */
    private void divisor(ExpressionTree divisor) {
        Element e = trees.getElement(new TreePath(getCurrentPath(), divisor));
        Object constant = divisor instanceof LiteralTree l ? l.getValue() : e instanceof VariableElement v ? v.getConstantValue() : null;
        String name = Pattern.quote(divisor.toString());
        MethodTree m = method();
        String around = m == null ? "" : text(m);
        boolean looked = Pattern.compile("\\b" + name + " (> 0|!= 0|= Math\\.max\\(1, )").matcher(around).find();
        if (!(constant instanceof Number n && n.longValue() != 0) && !looked) {
            against(7, "the divisor " + divisor + " is not looked at", divisor);
        }
    }

    // ---- rules 9, 10: loops and switches

    @Override
    public Void visitForLoop(ForLoopTree tree, Void none) {
        hasAnEnd(tree, tree.getCondition());
        return super.visitForLoop(tree, none);
    }

    @Override
    public Void visitWhileLoop(WhileLoopTree tree, Void none) {
        hasAnEnd(tree, tree.getCondition());
        return super.visitWhileLoop(tree, none);
    }

    @Override
    public Void visitDoWhileLoop(DoWhileLoopTree tree, Void none) {
        hasAnEnd(tree, tree.getCondition());
        return super.visitDoWhileLoop(tree, none);
    }

    /** A counter that the loop's own lines move is held against a bound in its condition. */
    private void hasAnEnd(Tree loop, ExpressionTree condition) {
        String held = condition == null ? "" : condition.toString();
        Matcher counter = Pattern.compile("\\b(\\w+) (?:<|<=|>|>=) ").matcher(held);
        boolean ends = false;
        while (counter.find()) {
            ends |= Pattern.compile("\\b" + counter.group(1) + "(\\+\\+|--| [+-]= )").matcher(text(loop)).find();
        }
        if (!ends || held.contains("||")) {
            against(9, "no end can be seen of " + loop.toString().lines().findFirst().orElse(""), loop);
        }
    }

    @Override
    public Void visitSwitch(SwitchTree tree, Void none) {
        byNumbers(tree.getExpression());
        return super.visitSwitch(tree, none);
    }

    @Override
    public Void visitSwitchExpression(SwitchExpressionTree tree, Void none) {
        byNumbers(tree.getExpression());
        return super.visitSwitchExpression(tree, none);
    }

    private void byNumbers(ExpressionTree by) {
        TypeMirror type = typeOf(by);
        boolean ofAnEnum = isOurClass(type) && ((DeclaredType) type).asElement().getKind() == ElementKind.ENUM;
        if (!type.getKind().isPrimitive() && !ofAnEnum) {
            against(10, "a switch on " + type, by);
        }
    }
}
