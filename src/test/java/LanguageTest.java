import com.sun.source.tree.AssertTree;
import com.sun.source.tree.ClassTree;
import com.sun.source.tree.CompilationUnitTree;
import com.sun.source.tree.LambdaExpressionTree;
import com.sun.source.tree.MemberReferenceTree;
import com.sun.source.tree.MethodInvocationTree;
import com.sun.source.tree.MethodTree;
import com.sun.source.tree.NewClassTree;
import com.sun.source.tree.SynchronizedTree;
import com.sun.source.tree.ThrowTree;
import com.sun.source.tree.Tree;
import com.sun.source.tree.TryTree;
import com.sun.source.tree.VariableTree;
import com.sun.source.util.JavacTask;
import com.sun.source.util.SourcePositions;
import com.sun.source.util.TreePath;
import com.sun.source.util.TreePathScanner;
import com.sun.source.util.Trees;
import java.io.File;
import java.util.ArrayList;
import java.util.HashMap;
import java.util.HashSet;
import java.util.LinkedHashMap;
import java.util.LinkedHashSet;
import java.util.List;
import java.util.Map;
import java.util.Set;
import java.util.TreeSet;
import javax.lang.model.element.Element;
import javax.lang.model.element.ElementKind;
import javax.lang.model.element.Modifier;
import javax.lang.model.element.TypeElement;
import javax.tools.JavaCompiler;
import javax.tools.StandardJavaFileManager;
import javax.tools.ToolProvider;

/** Looks at src/main/java/CountyTrick.java by those rules of LANGUAGE.md that a tree of it can tell. */
public final class LanguageTest {
    private static final String FACE = "land() show(int,int,int) watcher(int,int) type(int) clear() read() does(int) rest(int) "
        + "moves(int,int) turns(int,int) sends(int,int) undo() of(int,int) about(int,int) pull(int,int) drawn(int,int) "
        + "sees(int,int) unseen(int) when(int) enough(int) place(int,int,int) plan(int,int) guard(int,int) saw(int,int) where() "
        + "note(int,int,int,int,int) mark(int,int,int,int) forget(int) is(int) look(int) what(int) tries(int) game(int,int,int) "
        + "fails(int,int) years(int,int) part(int) image(int) from(int) status(int) count(int) digest()";
    private static final Set<String> LIBRARY = Set.of("Math.max", "Math.min", "Math.abs", "Integer.bitCount",
        "Integer.numberOfTrailingZeros", "String.length", "String.charAt");
    private static final int MOST_LINES = 60, MOST_PARAMETERS = 7, MOST_FIELDS = 20, MOST_CLASSES = 12, MOST_DEEP = 8;

    private static int wrong = 0;

    private static void fault(String rule, String what) {
        wrong++;
        System.out.println("rule " + rule + ": " + what);
    }

    public static void main(String[] args) throws Exception {
        String source = args.length > 0 ? args[0] : "src/main/java/CountyTrick.java";
        JavaCompiler compiler = ToolProvider.getSystemJavaCompiler();
        try (StandardJavaFileManager files = compiler.getStandardFileManager(null, null, null)) {
            JavacTask task = (JavacTask) compiler.getTask(null, files, null, List.of("--release", "17"), null,
                files.getJavaFileObjects(new File(source)));
            CompilationUnitTree unit = task.parse().iterator().next();
            task.analyze();
            Look look = new Look(Trees.instance(task), unit);
            look.scan(unit, null);
            look.end();
        }
        System.out.println(wrong == 0 ? "the language's rules that are looked at hold" : wrong + " faults");
        if (wrong != 0) {
            System.exit(1);
        }
    }

    static final class Look extends TreePathScanner<Void, Void> {
        final Trees trees;
        final CompilationUnitTree unit;
        final SourcePositions places;
        final Map<Element, Set<Element>> calls = new LinkedHashMap<>();
        final Map<Element, Integer> depths = new HashMap<>();
        final Set<Element> open = new HashSet<>();
        final Set<String> face = new TreeSet<>();
        final Set<String> privates = new TreeSet<>();
        final List<Element> classes = new ArrayList<>();

        Look(Trees trees, CompilationUnitTree unit) {
            this.trees = trees;
            this.unit = unit;
            this.places = trees.getSourcePositions();
        }

        Element here() {
            return trees.getElement(getCurrentPath());
        }

        long line(Tree tree) {
            return unit.getLineMap().getLineNumber(places.getStartPosition(unit, tree));
        }

        String at(Tree tree) {
            return " in line " + line(tree);
        }

        Element enclosing() {
            for (TreePath p = getCurrentPath(); p != null; p = p.getParentPath()) {
                if (p.getLeaf() instanceof MethodTree) {
                    return trees.getElement(p);
                }
            }
            return null;
        }

        @Override public Void visitCompilationUnit(CompilationUnitTree tree, Void v) {
            if (tree.getPackageName() != null || !tree.getImports().isEmpty() || tree.getTypeDecls().size() != 1) {
                fault("0", "a package, an import, or more than one class at the top");
            }
            return super.visitCompilationUnit(tree, v);
        }

        @Override public Void visitClass(ClassTree tree, Void v) {
            Element e = here();
            boolean top = e.getEnclosingElement().getKind() == ElementKind.PACKAGE;
            classes.add(e);
            Set<Modifier> m = e.getModifiers();
            if (top && !(m.contains(Modifier.PUBLIC) && m.contains(Modifier.FINAL))) {
                fault("1", "the class is not public and final");
            }
            if (!top && (!m.contains(Modifier.STATIC) || m.contains(Modifier.PUBLIC) || m.contains(Modifier.PROTECTED))) {
                fault("2", "class " + e + at(tree));
            }
            if (e.getEnclosingElement().getKind() == ElementKind.METHOD || tree.getSimpleName().isEmpty()) {
                fault("2", "a local or anonymous class" + at(tree));
            }
            int fields = 0;
            for (Tree member : tree.getMembers()) {
                if (member.getKind() == Tree.Kind.BLOCK) {
                    fault("5", "an initialiser block" + at(member));
                }
                if (member instanceof VariableTree && !((VariableTree) member).getModifiers().getFlags().contains(Modifier.STATIC)) {
                    fields++;
                }
            }
            if (fields > MOST_FIELDS) {
                fault("11", fields + " fields in " + e);
            }
            return super.visitClass(tree, v);
        }

        @Override public Void visitVariable(VariableTree tree, Void v) {
            Element e = here();
            if (e.getKind() == ElementKind.FIELD) {
                Set<Modifier> m = e.getModifiers();
                boolean top = ((TypeElement) e.getEnclosingElement()).getNestingKind().isNested() == false;
                if (m.contains(Modifier.STATIC) && !m.contains(Modifier.FINAL)) {
                    fault("5", "static field " + e);
                }
                if (top && !m.contains(Modifier.PRIVATE)) {
                    face.add(e.toString());
                    if (!m.containsAll(Set.of(Modifier.PUBLIC, Modifier.STATIC, Modifier.FINAL))) {
                        fault("1", "field " + e);
                    }
                }
            }
            String type = e.asType().toString();
            if (type.equals("double") || type.equals("float") || type.startsWith("java.lang.Object")) {
                fault("3", "type " + type + at(tree));
            }
            return super.visitVariable(tree, v);
        }

        @Override public Void visitMethod(MethodTree tree, Void v) {
            Element e = here();
            calls.computeIfAbsent(e, k -> new LinkedHashSet<>());
            if (tree.getParameters().size() > MOST_PARAMETERS) {
                fault("11", "parameters of " + e);
            }
            long end = unit.getLineMap().getLineNumber(places.getEndPosition(unit, tree));
            if (end - line(tree) + 1 > MOST_LINES) {
                fault("11", "lines of " + e);
            }
            boolean top = !((TypeElement) e.getEnclosingElement()).getNestingKind().isNested();
            if (top && e.getKind() == ElementKind.METHOD && e.getModifiers().contains(Modifier.PUBLIC)) {
                face.add(e.toString());
            } else if (e.getKind() == ElementKind.METHOD) {
                privates.add(e.getSimpleName().toString());
                if (top && !e.getModifiers().contains(Modifier.PRIVATE)) {
                    fault("1", "method " + e);
                }
            }
            return super.visitMethod(tree, v);
        }

        @Override public Void visitMethodInvocation(MethodInvocationTree tree, Void v) {
            call(trees.getElement(getCurrentPath()), tree);
            return super.visitMethodInvocation(tree, v);
        }

        @Override public Void visitNewClass(NewClassTree tree, Void v) {
            call(trees.getElement(getCurrentPath()), tree);
            return super.visitNewClass(tree, v);
        }

        void call(Element called, Tree tree) {
            Element owner = called.getEnclosingElement();
            if (owner.toString().startsWith("CountyTrick")) {
                if (enclosing() != null) {
                    calls.computeIfAbsent(enclosing(), k -> new LinkedHashSet<>()).add(called);
                }
                return;
            }
            String name = owner.getSimpleName() + "." + called.getSimpleName();
            if (!LIBRARY.contains(name) && !name.equals("Object.<init>")) {
                fault("4", name + at(tree));
            }
            if (enclosing() != null && !name.equals("Object.<init>")) {
                calls.computeIfAbsent(enclosing(), k -> new LinkedHashSet<>()).add(called);
            }
        }

        @Override public Void visitThrow(ThrowTree tree, Void v) {
            fault("6", "throw" + at(tree));
            return super.visitThrow(tree, v);
        }

        @Override public Void visitTry(TryTree tree, Void v) {
            fault("6", "try" + at(tree));
            return super.visitTry(tree, v);
        }

        @Override public Void visitSynchronized(SynchronizedTree tree, Void v) {
            fault("6", "synchronized" + at(tree));
            return super.visitSynchronized(tree, v);
        }

        @Override public Void visitAssert(AssertTree tree, Void v) {
            fault("6", "assert" + at(tree));
            return super.visitAssert(tree, v);
        }

        @Override public Void visitLambdaExpression(LambdaExpressionTree tree, Void v) {
            fault("2", "a lambda" + at(tree));
            return super.visitLambdaExpression(tree, v);
        }

        @Override public Void visitMemberReference(MemberReferenceTree tree, Void v) {
            fault("2", "a method reference" + at(tree));
            return super.visitMemberReference(tree, v);
        }

        int deep(Element method) {
            if (depths.containsKey(method)) {
                return depths.get(method);
            }
            if (!open.add(method)) {
                fault("8", "recursion by " + method);
                return 1000;
            }
            int most = 0;
            for (Element called : calls.getOrDefault(method, Set.of())) {
                most = Math.max(most, deep(called));
            }
            open.remove(method);
            depths.put(method, most + 1);
            return most + 1;
        }

        void end() {
            Set<String> want = new TreeSet<>(List.of(FACE.split(" ")));
            want.addAll(List.of("NONE", "BAD", "NO", "FULL"));
            if (!face.equals(want)) {
                fault("1", "the face is " + face + ", due is " + want);
            }
            for (String name : privates) {
                for (String member : want) {
                    if (member.startsWith(name + "(")) {
                        fault("1", "a method of its own named as the public " + name);
                    }
                }
            }
            if (classes.size() > MOST_CLASSES) {
                fault("11", classes.size() + " classes");
            }
            int most = 0;
            for (Element method : calls.keySet()) {
                int deep = deep(method);
                most = Math.max(most, deep);
                if (deep > MOST_DEEP) {
                    fault("11", method.getEnclosingElement() + "." + method + " goes " + deep + " deep");
                }
            }
            System.out.println(classes.size() + " classes, calls at most " + most + " deep");
        }
    }
}
