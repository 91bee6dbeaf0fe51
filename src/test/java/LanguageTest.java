import com.sun.source.tree.ClassTree;
import com.sun.source.tree.CompilationUnitTree;
import com.sun.source.tree.ImportTree;
import com.sun.source.tree.LineMap;
import com.sun.source.tree.MethodInvocationTree;
import com.sun.source.tree.MethodTree;
import com.sun.source.tree.Tree;
import com.sun.source.tree.VariableTree;
import com.sun.source.util.JavacTask;
import com.sun.source.util.TreePathScanner;
import com.sun.source.util.Trees;
import java.io.File;
import java.lang.reflect.Constructor;
import java.lang.reflect.Field;
import java.lang.reflect.Method;
import java.lang.reflect.Modifier;
import java.util.EnumSet;
import java.util.HashMap;
import java.util.HashSet;
import java.util.List;
import java.util.Map;
import java.util.Set;
import java.util.TreeSet;
import javax.lang.model.element.Element;
import javax.tools.JavaCompiler;
import javax.tools.JavaFileObject;
import javax.tools.StandardJavaFileManager;
import javax.tools.ToolProvider;

/** The face of the class, and the rules of LANGUAGE.md that can be read off its source. */
public final class LanguageTest {
    private static final Due DUE = new Due("LanguageTest");
    private static final File SOURCE = new File("src/main/java/BetweenCounts.java");

    private static final Set<String> FACE = Set.of(
            "int node()", "int arc(int,int,int)", "int change(int,int)", "boolean choose(int,int)",
            "int far(int,int)", "int ways(int,int)", "long stress(int)", "long between(int,int,int)",
            "long arcBetween(int,int,int)", "long group(int,int)", "long harmonic(int,int,int)",
            "long close(int,int,int)", "int top(int)", "long resistance(int,int,int,int)",
            "long carried(int,int,int)", "int told(int)");

    private static final Set<Tree.Kind> RULED_OUT = EnumSet.of(
            Tree.Kind.THROW, Tree.Kind.TRY, Tree.Kind.CATCH, Tree.Kind.ASSERT, Tree.Kind.SYNCHRONIZED,
            Tree.Kind.LAMBDA_EXPRESSION, Tree.Kind.MEMBER_REFERENCE, Tree.Kind.STRING_LITERAL);

    private static final Set<String> LIBRARY = Set.of(
            "java.lang.Math.max(int,int)", "java.lang.Math.min(int,int)", "java.util.Arrays.fill(int[],int)",
            "java.lang.System.arraycopy(java.lang.Object,int,java.lang.Object,int,int)",
            "java.lang.Object.Object()");

    private static String parameters(Class<?>[] types) {
        StringBuilder text = new StringBuilder("(");
        for (Class<?> type : types) {
            text.append(text.length() > 1 ? "," : "").append(type.getSimpleName());
        }
        return text.append(")").toString();
    }

    private static void face() throws Exception {
        Class<?> c = BetweenCounts.class;
        DUE.is("the class's modifiers", c.getModifiers(), Modifier.PUBLIC | Modifier.FINAL);
        Set<String> found = new TreeSet<>();
        for (Method m : c.getDeclaredMethods()) {
            if (Modifier.isPrivate(m.getModifiers())) {
                continue;
            }
            DUE.is(m + ": its modifiers", m.getModifiers(), Modifier.PUBLIC);
            found.add(m.getReturnType() + " " + m.getName() + parameters(m.getParameterTypes()));
        }
        DUE.holds("the face is " + found, found.equals(FACE));
        Constructor<?>[] makers = c.getDeclaredConstructors();
        DUE.is("constructors", makers.length, 1);
        DUE.is("the constructor's modifiers", makers[0].getModifiers(), Modifier.PUBLIC);
        DUE.is("the constructor's parameters", makers[0].getParameterCount(), 0);
        for (Field f : c.getDeclaredFields()) {
            boolean isNone = f.getName().equals("NONE");
            DUE.is(f + ": in the face", Modifier.isPrivate(f.getModifiers()), !isNone);
        }
        DUE.is("NONE", c.getField("NONE").getInt(null), -1);
    }

    /** Walks the source once, and keeps which method calls which. */
    private static final class Reader extends TreePathScanner<Void, Void> {
        private final Trees trees;
        private final CompilationUnitTree unit;
        private final Set<String> publicNames = new HashSet<>();
        private final Map<Element, Set<Element>> calls = new HashMap<>();
        private Element inside = null;
        private boolean making = true;
        private int classes = 0;

        Reader(Trees trees, CompilationUnitTree unit) {
            this.trees = trees;
            this.unit = unit;
            for (String row : FACE) {
                publicNames.add(row.substring(row.indexOf(' ') + 1, row.indexOf('(')));
            }
        }

        private long lines(Tree tree) {
            LineMap map = unit.getLineMap();
            long from = map.getLineNumber(trees.getSourcePositions().getStartPosition(unit, tree));
            return map.getLineNumber(trees.getSourcePositions().getEndPosition(unit, tree)) - from + 1;
        }

        @Override
        public Void scan(Tree tree, Void nothing) {
            if (tree != null) {
                DUE.holds(tree.getKind() + " stands in: " + tree, !RULED_OUT.contains(tree.getKind()));
                boolean makes = tree.getKind() == Tree.Kind.NEW_CLASS || tree.getKind() == Tree.Kind.NEW_ARRAY;
                DUE.holds("made by a call: " + tree, !makes || making);
            }
            return super.scan(tree, nothing);
        }

        @Override
        public Void visitImport(ImportTree tree, Void nothing) {
            DUE.holds("import " + tree, tree.getQualifiedIdentifier().toString().equals("java.util.Arrays"));
            return null;
        }

        @Override
        public Void visitClass(ClassTree tree, Void nothing) {
            classes++;
            int fields = 0;
            for (Tree member : tree.getMembers()) {
                DUE.holds("a block in " + tree.getSimpleName(), member.getKind() != Tree.Kind.BLOCK);
                if (member instanceof VariableTree) {
                    boolean fixed = ((VariableTree) member).getModifiers().toString().contains("static");
                    fields += fixed ? 0 : 1;
                    boolean lasting = ((VariableTree) member).getModifiers().toString().contains("final");
                    DUE.holds("static state: " + member, !fixed || lasting);
                }
            }
            DUE.holds(tree.getSimpleName() + " has " + fields + " fields", fields <= 20);
            return super.visitClass(tree, nothing);
        }

        @Override
        public Void visitMethod(MethodTree tree, Void nothing) {
            inside = trees.getElement(getCurrentPath());
            making = tree.getReturnType() == null;
            String name = tree.getName().toString();
            boolean isPublic = tree.getModifiers().getFlags().contains(javax.lang.model.element.Modifier.PUBLIC);
            DUE.holds(name + ": a public name", isPublic || !publicNames.contains(name));
            DUE.holds(name + ": " + lines(tree) + " lines", lines(tree) <= 60);
            DUE.holds(name + ": " + tree.getParameters().size() + " parameters", tree.getParameters().size() <= 7);
            calls.putIfAbsent(inside, new HashSet<>());
            super.visitMethod(tree, nothing);
            inside = null;
            making = true;
            return null;
        }

        @Override
        public Void visitMethodInvocation(MethodInvocationTree tree, Void nothing) {
            Element called = trees.getElement(getCurrentPath());
            String owner = called.getEnclosingElement().toString();
            if (owner.startsWith("BetweenCounts")) {
                calls.computeIfAbsent(inside, e -> new HashSet<>()).add(called);
            } else {
                String name = called.getKind() == javax.lang.model.element.ElementKind.CONSTRUCTOR
                        ? "Object()" : called.toString();
                DUE.holds("library: " + owner + "." + name, LIBRARY.contains(owner + "." + name));
            }
            return super.visitMethodInvocation(tree, nothing);
        }

        /** How many calls stand open at once at most; more than the methods there are: a recursion. */
        private int depth(Element method, int open) {
            if (open > calls.size()) {
                return open;
            }
            int deepest = open;
            for (Element called : calls.getOrDefault(method, Set.of())) {
                deepest = Math.max(deepest, depth(called, open + 1));
            }
            return deepest;
        }

        void end() {
            DUE.holds(classes + " classes", classes <= 12);
            for (Element method : calls.keySet()) {
                DUE.holds(method + ": calls go " + depth(method, 1) + " deep", depth(method, 1) <= 8);
            }
        }
    }

    private static void source() throws Exception {
        JavaCompiler compiler = ToolProvider.getSystemJavaCompiler();
        StandardJavaFileManager files = compiler.getStandardFileManager(null, null, null);
        Iterable<? extends JavaFileObject> units = files.getJavaFileObjects(SOURCE);
        JavacTask task = (JavacTask) compiler.getTask(null, files, null, List.of("-proc:none"), null, units);
        CompilationUnitTree unit = task.parse().iterator().next();
        task.analyze();
        DUE.holds("no package", unit.getPackageName() == null);
        DUE.is("classes of the file", unit.getTypeDecls().size(), 1);
        Reader reader = new Reader(Trees.instance(task), unit);
        reader.scan(unit, null);
        reader.end();
    }

    public static void main(String[] args) throws Exception {
        face();
        source();
        DUE.end();
    }
}
