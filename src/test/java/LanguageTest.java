import com.sun.source.tree.*;
import com.sun.source.util.*;
import java.io.File;
import java.lang.reflect.Method;
import java.lang.reflect.Modifier;
import java.util.*;
import javax.lang.model.element.Element;
import javax.lang.model.element.ElementKind;
import javax.lang.model.element.ExecutableElement;
import javax.tools.JavaCompiler;
import javax.tools.StandardJavaFileManager;
import javax.tools.ToolProvider;

/** The rules of LANGUAGE.md that a program can see, and the document's face. Run from the project's root. */
public final class LanguageTest {
    static final String SOURCE = "src/main/java/DecoderForge.java";
    static final String[] FACE = {
        "int feed(long,int)", "int wipe()", "int text()", "int formOf(int,int)", "int named(int,int,int)", "int ofKind(int)",
        "int means(int)", "int fits(int)", "int over(int,int)", "int many(int)", "long covers(int,int)", "int next(int,int)",
        "int clash(int,int)", "int odd(int)", "int greedy(int,int)", "int least(int,int)", "int leaf(int,int)",
        "int field(int,int,int)", "int taken(int,int,int)", "int laid(int,int,int,int)", "int hold(int,int)", "int make(int)",
        "int write(int)", "int written(int)", "int read()", "int put(int,int)", "int cell(int)", "int copy(int,int,int)",
        "int holders(int)", "int walk(int,int,int)", "int halts(int)", "int run(int,int)", "int met(int)", "int order(int)",
        "int costs(int)", "int undo()", "int image()", "int back()", "int count(int)", "int refused(int)"};
    /** Of rule 4, what this program uses. */
    static final Set<String> LIBRARY = Set.of("System.arraycopy", "Math.max", "Math.abs", "Integer.bitCount", "Arrays.fill");
    static final Set<String> IMPORTS = Set.of("java.util.Arrays", "java.util.ArrayList", "java.util.List");
    static final Set<Tree.Kind> FORBIDDEN = EnumSet.of(Tree.Kind.THROW, Tree.Kind.TRY, Tree.Kind.CATCH, Tree.Kind.SYNCHRONIZED,
            Tree.Kind.ASSERT, Tree.Kind.LAMBDA_EXPRESSION, Tree.Kind.MEMBER_REFERENCE, Tree.Kind.TYPE_CAST,
            Tree.Kind.WHILE_LOOP, Tree.Kind.DO_WHILE_LOOP, Tree.Kind.STRING_LITERAL);

    private static int asked = 0;
    private static int wrong = 0;

    static void check(boolean good, String what) {
        asked++;
        if (!good) {
            wrong++;
            System.out.println("LanguageTest: " + what);
        }
    }

    /** Signs 1 to 127 alone, and no line so long that it isn't read. */
    static void signs() throws java.io.IOException {
        int at = 0;
        for (String row : java.nio.file.Files.readAllLines(java.nio.file.Path.of(SOURCE))) {
            at++;
            check(row.chars().allMatch(c -> c >= 32 && c < 127), "another sign (line " + at + ")");
            check(row.length() <= 120, "a long line (line " + at + ")");
        }
    }

    public static void main(String[] args) throws Exception {
        face();
        signs();
        JavaCompiler compiler = ToolProvider.getSystemJavaCompiler();
        StandardJavaFileManager files = compiler.getStandardFileManager(null, null, null);
        JavacTask task = (JavacTask) compiler.getTask(null, files, null, List.of("-proc:none"), null,
                files.getJavaFileObjects(new File(SOURCE)));
        CompilationUnitTree unit = task.parse().iterator().next();
        task.analyze();
        Reader reader = new Reader(unit, Trees.instance(task));
        reader.scan(unit, null);
        reader.finish();
        System.out.println("LanguageTest: " + asked + " looks, " + wrong + " not as due");
        if (wrong != 0) System.exit(1);
    }

    static void face() {
        Set<String> due = new TreeSet<>(Arrays.asList(FACE));
        Set<String> there = new TreeSet<>();
        for (Method m : DecoderForge.class.getDeclaredMethods()) {
            if (Modifier.isPrivate(m.getModifiers()) || m.isSynthetic()) continue;
            StringJoiner row = new StringJoiner(",", m.getReturnType() + " " + m.getName() + "(", ")");
            for (Class<?> p : m.getParameterTypes()) row.add(p.getName());
            there.add(row.toString());
            check(Modifier.isPublic(m.getModifiers()), "not public and not private: " + m);
        }
        check(due.equals(there), "the face is " + there);
        check(Modifier.isFinal(DecoderForge.class.getModifiers()), "the class isn't final");
        check(DecoderForge.class.getDeclaredConstructors().length == 1, "there are more constructors");
        List<String> fields = new ArrayList<>();
        for (java.lang.reflect.Field f : DecoderForge.class.getDeclaredFields()) {
            if (!Modifier.isPrivate(f.getModifiers())) fields.add(f.getName());
        }
        check(fields.equals(List.of("NONE", "MIXED")), "fields that are seen: " + fields);
    }

    static final class Reader extends TreePathScanner<Void, Void> {
        private final CompilationUnitTree unit;
        private final Trees trees;
        private final Map<Element, Set<Element>> calls = new LinkedHashMap<>();
        private Element inside = null;
        private int classes = 0;

        Reader(CompilationUnitTree unit, Trees trees) {
            this.unit = unit;
            this.trees = trees;
        }

        long line(long position) { return unit.getLineMap().getLineNumber(position); }

        String at(Tree tree) {
            return " (line " + line(trees.getSourcePositions().getStartPosition(unit, tree)) + ")";
        }

        @Override public Void scan(Tree tree, Void none) {
            if (tree != null && FORBIDDEN.contains(tree.getKind())) {
                boolean narrowing = tree instanceof TypeCastTree cast && cast.getType().toString().equals("int");
                check(narrowing, tree.getKind() + at(tree));
            }
            return super.scan(tree, none);
        }

        @Override public Void visitImport(ImportTree tree, Void none) {
            check(IMPORTS.contains(tree.getQualifiedIdentifier().toString()), "import" + at(tree));
            return super.visitImport(tree, none);
        }

        @Override public Void visitClass(ClassTree tree, Void none) {
            classes++;
            Set<javax.lang.model.element.Modifier> flags = tree.getModifiers().getFlags();
            boolean outer = tree.getSimpleName().contentEquals("DecoderForge");
            check(outer || flags.contains(javax.lang.model.element.Modifier.STATIC), "a class that isn't static" + at(tree));
            check(outer || flags.contains(javax.lang.model.element.Modifier.FINAL), "a class that isn't final" + at(tree));
            int fields = 0;
            for (Tree member : tree.getMembers()) {
                check(member.getKind() != Tree.Kind.BLOCK, "a block in a class" + at(member));
                if (member instanceof VariableTree v) fields += field(v);
            }
            check(fields <= 20, fields + " fields" + at(tree));
            return super.visitClass(tree, none);
        }

        int field(VariableTree v) {
            Set<javax.lang.model.element.Modifier> flags = v.getModifiers().getFlags();
            if (!flags.contains(javax.lang.model.element.Modifier.STATIC)) return 1;
            check(flags.contains(javax.lang.model.element.Modifier.FINAL), "static, not final" + at(v));
            check(Set.of("int", "int[]", "char[]").contains(v.getType().toString()), "static of another type" + at(v));
            return 0;
        }

        @Override public Void visitMethod(MethodTree tree, Void none) {
            Element before = inside;
            inside = trees.getElement(getCurrentPath());
            calls.putIfAbsent(inside, new LinkedHashSet<>());
            check(tree.getParameters().size() <= 7, "parameters" + at(tree));
            long from = line(trees.getSourcePositions().getStartPosition(unit, tree));
            long to = line(Math.max(trees.getSourcePositions().getEndPosition(unit, tree), 0));
            check(to - from < 60, "a long method" + at(tree));
            boolean ofFace = tree.getModifiers().getFlags().contains(javax.lang.model.element.Modifier.PUBLIC);
            for (String row : FACE) {
                boolean named = row.contains(" " + tree.getName() + "(");
                check(ofFace || !named, "a public one's name" + at(tree));
            }
            super.visitMethod(tree, none);
            inside = before;
            return null;
        }

        @Override public Void visitMethodInvocation(MethodInvocationTree tree, Void none) {
            Element called = trees.getElement(getCurrentPath());
            if (called instanceof ExecutableElement) {
                String owner = called.getEnclosingElement().toString();
                if (owner.startsWith("java.")) {
                    String name = called.getEnclosingElement().getSimpleName() + "." + called.getSimpleName();
                    boolean made = called.getKind() == ElementKind.CONSTRUCTOR;
                    check(made || LIBRARY.contains(name), "library: " + name + at(tree));
                } else if (inside != null) {
                    calls.get(inside).add(called);
                }
            }
            return super.visitMethodInvocation(tree, none);
        }

        /** Static arrays are never changed: they are read by index alone, and nothing of them is handed on. */
        @Override public Void visitIdentifier(IdentifierTree tree, Void none) {
            Element named = trees.getElement(getCurrentPath());
            boolean row = named != null && named.getKind() == ElementKind.FIELD && named.asType().toString().endsWith("[]")
                    && named.getModifiers().contains(javax.lang.model.element.Modifier.STATIC);
            if (row) {
                TreePath around = getCurrentPath().getParentPath();
                boolean read = around.getLeaf() instanceof ArrayAccessTree access && access.getExpression() == tree;
                Tree outer = around.getParentPath().getLeaf();
                boolean changed = outer instanceof AssignmentTree set && set.getVariable() == around.getLeaf()
                        || outer instanceof CompoundAssignmentTree || outer instanceof UnaryTree;
                check(read && !changed, "a static array that isn't only read" + at(tree));
            }
            return super.visitIdentifier(tree, none);
        }

        @Override public Void visitForLoop(ForLoopTree tree, Void none) {
            check(tree.getCondition() != null && !tree.getUpdate().isEmpty(), "a loop without an end" + at(tree));
            return super.visitForLoop(tree, none);
        }

        @Override public Void visitNewClass(NewClassTree tree, Void none) {
            check(tree.getClassBody() == null, "an anonymous class" + at(tree));
            boolean making = inside != null && inside.getKind() == ElementKind.CONSTRUCTOR || inside == null;
            check(making, "an object made outside of constructors" + at(tree));
            return super.visitNewClass(tree, none);
        }

        @Override public Void visitNewArray(NewArrayTree tree, Void none) {
            boolean making = inside == null || inside.getKind() == ElementKind.CONSTRUCTOR;
            check(making, "an array made outside of constructors" + at(tree));
            return super.visitNewArray(tree, none);
        }

        void finish() {
            check(classes <= 12, classes + " classes");
            Map<Element, Integer> known = new HashMap<>();
            for (Element method : calls.keySet()) {
                int depth = depth(method, new ArrayDeque<>(), known);
                check(depth <= 8, method + " goes " + depth + " deep");
            }
        }

        /** Calls that stand open at once; a method that calls itself counts once. */
        int depth(Element method, Deque<Element> open, Map<Element, Integer> known) {
            if (known.containsKey(method)) return known.get(method);
            int deepest = 0;
            open.push(method);
            for (Element called : calls.getOrDefault(method, Set.of())) {
                if (called == method) {
                    check(method.getSimpleName().contentEquals("grow"), method + " calls itself");
                    continue;
                }
                check(!open.contains(called), method + " is called by what it calls");
                if (!open.contains(called)) deepest = Math.max(deepest, depth(called, open, known));
            }
            open.pop();
            known.put(method, deepest + 1);
            return deepest + 1;
        }
    }
}
