import com.sun.source.tree.AssignmentTree;
import com.sun.source.tree.BinaryTree;
import com.sun.source.tree.BlockTree;
import com.sun.source.tree.ClassTree;
import com.sun.source.tree.CompilationUnitTree;
import com.sun.source.tree.MethodInvocationTree;
import com.sun.source.tree.MethodTree;
import com.sun.source.tree.NewClassTree;
import com.sun.source.tree.Tree;
import com.sun.source.tree.VariableTree;
import com.sun.source.util.JavacTask;
import com.sun.source.util.TreePathScanner;
import com.sun.source.util.Trees;
import java.io.IOException;
import java.nio.file.Files;
import java.nio.file.Path;
import java.util.ArrayList;
import java.util.EnumSet;
import java.util.HashMap;
import java.util.HashSet;
import java.util.LinkedHashMap;
import java.util.List;
import java.util.Map;
import java.util.Set;
import java.util.TreeSet;
import java.util.regex.Matcher;
import java.util.regex.Pattern;
import javax.lang.model.element.Element;
import javax.lang.model.element.ExecutableElement;
import javax.lang.model.element.Modifier;
import javax.tools.JavaCompiler;
import javax.tools.StandardJavaFileManager;
import javax.tools.ToolProvider;

/** What can be seen of ../shared/LANGUAGE.md, by its rules' numbers, in src/main/java/NymphRota.java. */
final class LanguageTest {
    private static final Path SOURCE = Path.of("src/main/java/NymphRota.java");
    private static final Path DOCUMENT = Path.of("../shared/DOC.md");
    private static final Set<String> LIBRARY = Set.of("java.lang.Math.max", "java.lang.Math.min", "java.lang.Math.abs",
            "java.lang.Integer.bitCount", "java.lang.String.length", "java.lang.String.charAt",
            "java.lang.System.arraycopy", "java.util.Arrays.fill", "java.lang.Object.<init>");
    private static final Set<Tree.Kind> NOT_HERE = EnumSet.of(Tree.Kind.THROW, Tree.Kind.TRY, Tree.Kind.CATCH,
            Tree.Kind.SYNCHRONIZED, Tree.Kind.ASSERT, Tree.Kind.LAMBDA_EXPRESSION, Tree.Kind.MEMBER_REFERENCE,
            Tree.Kind.ANNOTATION, Tree.Kind.INTERSECTION_TYPE, Tree.Kind.BINDING_PATTERN, Tree.Kind.SWITCH_EXPRESSION);
    private static final int MOST_LINES = 60;
    private static final int MOST_PARAMETERS = 7;
    private static final int MOST_CLASSES = 12;
    private static final int MOST_FIELDS = 20;
    private static final int MOST_DEEP = 8;

    private final List<String> faults = new ArrayList<>();
    private final Map<Element, Set<Element>> calls = new LinkedHashMap<>();

    public static void main(String[] args) throws IOException {
        LanguageTest test = new LanguageTest();
        test.look();
        for (String fault : test.faults) {
            System.out.println("LANGUAGE.md: " + fault);
        }
        System.out.println("language: " + test.faults.size() + " faults");
        if (!test.faults.isEmpty()) {
            System.exit(1);
        }
    }

    private void must(boolean so, int rule, String what) {
        if (!so) {
            faults.add("rule " + rule + ": " + what);
        }
    }

    private void look() throws IOException {
        JavaCompiler compiler = ToolProvider.getSystemJavaCompiler();
        try (StandardJavaFileManager files = compiler.getStandardFileManager(null, null, null)) {
            JavacTask task = (JavacTask) compiler.getTask(null, files, null, List.of("-proc:none"), null,
                    files.getJavaFileObjects(SOURCE));
            CompilationUnitTree unit = task.parse().iterator().next();
            task.analyze();
            must(unit.getPackage() == null && unit.getTypeDecls().size() == 1, 1, "one class, without a package");
            new Looker(unit, Trees.instance(task)).scan(unit, null);
        }
        lookAtFace();
        lookAtDepth();
    }

    /** The lines of the document between "```java" and "```" are the face. */
    private void lookAtFace() throws IOException {
        Set<String> wanted = new TreeSet<>();
        Matcher m = Pattern.compile("public int (\\w+)\\(([^)]*)\\);").matcher(Files.readString(DOCUMENT));
        while (m.find()) {
            wanted.add(m.group(1) + "(" + m.group(2).replaceAll(" \\w+(?=,|$)", "").replace(" ", "") + ")");
        }
        Set<String> there = new TreeSet<>();
        Set<String> hidden = new HashSet<>();
        for (java.lang.reflect.Method method : NymphRota.class.getDeclaredMethods()) {
            String text = method.toString();
            if (java.lang.reflect.Modifier.isPublic(method.getModifiers())) {
                there.add(text.substring(text.lastIndexOf('.') + 1));
            } else {
                must(java.lang.reflect.Modifier.isPrivate(method.getModifiers()), 1, "not private: " + text);
                hidden.add(method.getName());
            }
        }
        must(wanted.size() == 51 && wanted.equals(there), 1, "the face is " + there + ", not " + wanted);
        for (String name : there) {
            must(!hidden.contains(name.substring(0, name.indexOf('('))), 1, "private and public: " + name);
        }
        Set<String> constants = new TreeSet<>();
        for (java.lang.reflect.Field field : NymphRota.class.getDeclaredFields()) {
            if (!java.lang.reflect.Modifier.isPrivate(field.getModifiers())) {
                constants.add(field.getName());
            }
        }
        must(constants.equals(Set.of("BAD", "FULL", "NONE", "STATE")), 1, "the constants are " + constants);
        must(java.lang.reflect.Modifier.isFinal(NymphRota.class.getModifiers()), 1, "final");
    }

    /** The longest chain of calls; those that call one another count as one. */
    private void lookAtDepth() {
        Map<Element, Integer> known = new HashMap<>();
        for (Element method : calls.keySet()) {
            if (method.getModifiers().contains(Modifier.PUBLIC)) {
                int deep = depth(method, known);
                must(deep <= MOST_DEEP, 11, method + " goes " + deep + " deep");
            }
        }
    }

    private Set<Element> reachable(Element from) {
        Set<Element> all = new HashSet<>();
        List<Element> left = new ArrayList<>(calls.getOrDefault(from, Set.of()));
        while (!left.isEmpty()) {
            Element next = left.remove(left.size() - 1);
            if (all.add(next)) {
                left.addAll(calls.getOrDefault(next, Set.of()));
            }
        }
        return all;
    }

    private int depth(Element method, Map<Element, Integer> known) {
        Integer deep = known.get(method);
        if (deep != null) {
            return deep;
        }
        Set<Element> ring = new HashSet<>();
        for (Element other : reachable(method)) {
            if (reachable(other).contains(method)) {
                ring.add(other);
                must(other.getModifiers().contains(Modifier.PRIVATE), 8, other + " is recursive, not private");
            }
        }
        ring.add(method);
        int most = 0;
        for (Element one : ring) {
            for (Element callee : calls.getOrDefault(one, Set.of())) {
                if (!ring.contains(callee)) {
                    most = Math.max(most, depth(callee, known));
                }
            }
        }
        known.put(method, most + 1);
        return most + 1;
    }

    private final class Looker extends TreePathScanner<Void, Void> {
        private final CompilationUnitTree unit;
        private final Trees trees;
        private int classes;
        private MethodTree method;

        Looker(CompilationUnitTree unit, Trees trees) {
            this.unit = unit;
            this.trees = trees;
        }

        private long line(long position) {
            return unit.getLineMap().getLineNumber(position);
        }

        private String at(Tree tree) {
            return "line " + line(trees.getSourcePositions().getStartPosition(unit, tree)) + ": " + tree;
        }

        @Override
        public Void scan(Tree tree, Void nothing) {
            if (tree != null) {
                must(!NOT_HERE.contains(tree.getKind()), 6, at(tree));
                must(tree.getKind() != Tree.Kind.NULL_LITERAL, 7, "nothing is null here: " + at(tree));
            }
            return super.scan(tree, nothing);
        }

        @Override
        public Void visitClass(ClassTree tree, Void nothing) {
            classes++;
            must(classes <= MOST_CLASSES, 11, "too many classes");
            boolean inside = classes > 1;
            Set<Modifier> flags = tree.getModifiers().getFlags();
            must(!inside || (flags.contains(Modifier.STATIC) && flags.contains(Modifier.PRIVATE)), 2, at(tree));
            must(method == null, 2, "a class in a method: " + tree.getSimpleName());
            int fields = 0;
            for (Tree member : tree.getMembers()) {
                must(!(member instanceof BlockTree), 5, "a block in " + tree.getSimpleName());
                if (member instanceof VariableTree) {
                    Set<Modifier> its = ((VariableTree) member).getModifiers().getFlags();
                    must(!its.contains(Modifier.STATIC) || its.contains(Modifier.FINAL), 5, at(member));
                    fields += its.contains(Modifier.STATIC) ? 0 : 1;
                }
            }
            must(fields <= MOST_FIELDS, 11, "too many fields in " + tree.getSimpleName());
            return super.visitClass(tree, nothing);
        }

        @Override
        public Void visitMethod(MethodTree tree, Void nothing) {
            long from = line(trees.getSourcePositions().getStartPosition(unit, tree));
            long to = line(trees.getSourcePositions().getEndPosition(unit, tree));
            must(to - from < MOST_LINES, 11, tree.getName() + " is too long");
            must(tree.getParameters().size() <= MOST_PARAMETERS, 11, tree.getName() + " takes too much");
            method = tree;
            calls.putIfAbsent(trees.getElement(getCurrentPath()), new HashSet<>());
            super.visitMethod(tree, nothing);
            method = null;
            return null;
        }

        private Element caller() {
            return trees.getElement(trees.getPath(unit, method));
        }

        @Override
        public Void visitMethodInvocation(MethodInvocationTree tree, Void nothing) {
            ExecutableElement called = (ExecutableElement) trees.getElement(getCurrentPath());
            calls.computeIfAbsent(caller(), c -> new HashSet<>()).add(called);
            if (trees.getTree(called) == null) {
                String name = called.getEnclosingElement() + "." + called.getSimpleName();
                must(LIBRARY.contains(name) || name.endsWith(".<init>"), 4, name);
            }
            return super.visitMethodInvocation(tree, nothing);
        }

        @Override
        public Void visitNewClass(NewClassTree tree, Void nothing) {
            boolean making = method == null || method.getName().contentEquals("<init>");
            must(making, 12, "made outside a constructor: " + at(tree));
            return super.visitNewClass(tree, nothing);
        }

        @Override
        public Void visitBinary(BinaryTree tree, Void nothing) {
            if (tree.getKind() == Tree.Kind.PLUS) {
                String type = "" + trees.getTypeMirror(getCurrentPath());
                must(type.equals("int") || type.equals("long"), 10, at(tree));
            }
            return super.visitBinary(tree, nothing);
        }

        @Override
        public Void visitAssignment(AssignmentTree tree, Void nothing) {
            must(!tree.getVariable().toString().startsWith("ABOVE"), 5, at(tree));
            return super.visitAssignment(tree, nothing);
        }
    }
}
