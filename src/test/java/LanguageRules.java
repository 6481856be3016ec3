import com.sun.source.tree.*;
import com.sun.source.util.JavacTask;
import com.sun.source.util.TreePath;
import com.sun.source.util.TreePathScanner;
import com.sun.source.util.Trees;
import java.nio.file.Files;
import java.nio.file.Path;
import java.util.*;
import javax.lang.model.element.Element;
import javax.lang.model.element.Modifier;
import javax.lang.model.type.ArrayType;
import javax.lang.model.type.TypeKind;
import javax.lang.model.type.TypeMirror;
import javax.tools.JavaCompiler;
import javax.tools.ToolProvider;

/** Looks at the program's source for what ../shared/LANGUAGE.md rules out, as far as a scan of its tree can tell. */
public final class LanguageRules {
    private static int wrong = 0;

    private static void say(String what) {
        wrong++;
        System.out.println(what);
    }

    public static void main(String[] args) throws Exception {
        Path file = Path.of(args[0]);
        for (byte b : Files.readAllBytes(file)) if (b < 0) say("a sign beyond 127 in the source");
        JavaCompiler compiler = ToolProvider.getSystemJavaCompiler();
        var files = compiler.getStandardFileManager(null, null, null);
        JavacTask task = (JavacTask) compiler.getTask(null, files, null, List.of("-proc:none"), null, files.getJavaFileObjects(file));
        CompilationUnitTree unit = task.parse().iterator().next();
        task.analyze();
        Scan scan = new Scan(unit, Trees.instance(task));
        scan.scan(unit, null);
        scan.tell();
        if (wrong != 0) System.exit(1);
    }

    private static final class Scan extends TreePathScanner<Void, Void> {
        private static final Set<String> TYPES = Set.of("String", "StringBuilder", "Integer", "ArrayList", "List", "Long", "Math", "System", "Arrays");
        /** What stands in rule 4, each class with its methods; of Integer, Long and Math all static ones but the Exact ones. */
        private static final Map<String, Set<String>> LIBRARY = Map.of(
            "java.lang.Object", Set.of("<init>"),
            "java.lang.String", Set.of("length", "charAt", "isEmpty", "equals", "indexOf", "substring", "toCharArray"),
            "java.lang.StringBuilder", Set.of("append", "charAt", "setCharAt", "setLength", "deleteCharAt", "reverse", "length", "toString"),
            "java.util.ArrayList", Set.of("add", "get", "set", "remove", "size", "isEmpty", "clear"),
            "java.util.List", Set.of("add", "get", "set", "remove", "size", "isEmpty", "clear", "of"),
            "java.lang.System", Set.of("arraycopy"),
            "java.util.Arrays", Set.of("copyOf", "copyOfRange", "fill"));
        private static final Set<String> NUMBERS = Set.of("java.lang.Integer", "java.lang.Long", "java.lang.Math");
        private final CompilationUnitTree unit;
        private final Trees trees;
        private final Set<String> publicNames = new HashSet<>();
        private final Set<String> otherNames = new HashSet<>();
        private final Set<String> classes = new HashSet<>();
        private final Set<String> owners = new HashSet<>();
        private final Map<String, Set<String>> calls = new HashMap<>();
        private String method = "";

        Scan(CompilationUnitTree unit, Trees trees) {
            this.unit = unit;
            this.trees = trees;
            if (!unit.getImports().isEmpty()) say("an import that is not needed");
            if (unit.getPackageName() != null) say("a package line");
        }

        private void refuse(Tree tree, String what) {
            say(what + ": " + tree.toString().lines().findFirst().orElse(""));
        }

        private long lines(Tree tree) {
            return tree.toString().lines().count();
        }

        @Override public Void visitClass(ClassTree tree, Void v) {
            boolean outer = classes.isEmpty();
            classes.add(tree.getSimpleName().toString());
            Set<Modifier> flags = tree.getModifiers().getFlags();
            if (outer ? !flags.contains(Modifier.PUBLIC) || !flags.contains(Modifier.FINAL) : !flags.contains(Modifier.STATIC) || flags.contains(Modifier.PUBLIC))
                refuse(tree, "a class that is not as rule 1 or 2 says");
            int fields = 0;
            for (Tree member : tree.getMembers()) {
                if (member.getKind() == Tree.Kind.BLOCK) refuse(member, "a block of initialisers");
                if (member instanceof VariableTree field && !field.getModifiers().getFlags().contains(Modifier.STATIC)) fields++;
                Set<Modifier> has = member instanceof VariableTree f ? f.getModifiers().getFlags() : member instanceof MethodTree m ? m.getModifiers().getFlags() : Set.of(Modifier.PRIVATE);
                if (outer && !has.contains(Modifier.PUBLIC) && !has.contains(Modifier.PRIVATE)) refuse(member, "a member that is neither of the face nor private");
            }
            if (fields > 20) refuse(tree, "more than 20 fields");
            return super.visitClass(tree, v);
        }

        @Override public Void visitMethod(MethodTree tree, Void v) {
            String name = tree.getName().toString();
            (tree.getModifiers().getFlags().contains(Modifier.PUBLIC) ? publicNames : otherNames).add(name);
            if (tree.getParameters().size() > 7) refuse(tree, "more than seven parameters");
            if (lines(tree) > 60) refuse(tree, "a long method");
            if (!tree.getThrows().isEmpty()) refuse(tree, "throws");
            method = name;
            calls.computeIfAbsent(name, key -> new HashSet<>());
            super.visitMethod(tree, v);
            method = "";
            return null;
        }

        @Override public Void visitVariable(VariableTree tree, Void v) {
            Set<Modifier> flags = tree.getModifiers().getFlags();
            if (flags.contains(Modifier.STATIC) && !flags.contains(Modifier.FINAL)) refuse(tree, "a static field that is not final");
            return super.visitVariable(tree, v);
        }

        @Override public Void visitMethodInvocation(MethodInvocationTree tree, Void v) {
            String called = tree.getMethodSelect().toString();
            String name = called.substring(called.lastIndexOf('.') + 1);
            if (name.endsWith("Exact")) refuse(tree, "a function that throws");
            if (!method.isEmpty()) calls.get(method).add(name);
            library(tree);
            return super.visitMethodInvocation(tree, v);
        }

        private void library(MethodInvocationTree tree) {
            Element called = trees.getElement(getCurrentPath());
            if (called == null) {
                refuse(tree, "a call of what is not known");
                return;
            }
            String of = called.getEnclosingElement().toString();
            String name = called.getSimpleName().toString();
            boolean own = of.equals("CrashTies") || of.startsWith("CrashTies.");
            boolean listed = LIBRARY.getOrDefault(of, Set.of()).contains(name) || NUMBERS.contains(of) && called.getModifiers().contains(Modifier.STATIC);
            if (!own && !listed) refuse(tree, "a call of the library that is not listed");
            boolean rows = of.equals("java.lang.System") || of.equals("java.util.Arrays");
            if (rows && !own) for (ExpressionTree part : tree.getArguments()) if (!isNumbers(typeOf(part))) refuse(tree, "rows of the library that are no numbers");
        }

        private TypeMirror typeOf(Tree part) {
            return trees.getTypeMirror(new TreePath(getCurrentPath(), part));
        }

        /** A number, or an array of numbers. */
        private static boolean isNumbers(TypeMirror type) {
            TypeMirror of = type instanceof ArrayType array ? array.getComponentType() : type;
            return of.getKind().isPrimitive() && of.getKind() != TypeKind.BOOLEAN;
        }

        private void unchanged(ExpressionTree target) {
            if (!(target instanceof ArrayAccessTree access)) return;
            Element row = trees.getElement(TreePath.getPath(unit, access.getExpression()));
            if (row != null && row.getModifiers().contains(Modifier.STATIC)) refuse(target, "a static array that is changed");
        }

        @Override public Void visitAssignment(AssignmentTree tree, Void v) { unchanged(tree.getVariable()); return super.visitAssignment(tree, v); }
        @Override public Void visitCompoundAssignment(CompoundAssignmentTree tree, Void v) { unchanged(tree.getVariable()); return super.visitCompoundAssignment(tree, v); }
        @Override public Void visitUnary(UnaryTree tree, Void v) {
            boolean changes = tree.getKind().toString().endsWith("CREMENT");
            if (changes) unchanged(tree.getExpression());
            return super.visitUnary(tree, v);
        }

        @Override public Void visitForLoop(ForLoopTree tree, Void v) {
            if (tree.getCondition() == null) refuse(tree, "a loop whose end can't be seen");
            return super.visitForLoop(tree, v);
        }

        @Override public Void visitLiteral(LiteralTree tree, Void v) {
            boolean ofLoop = getCurrentPath().getParentPath().getLeaf() instanceof ParenthesizedTree && tree.getKind() == Tree.Kind.BOOLEAN_LITERAL;
            if (ofLoop) refuse(tree, "a loop whose end can't be seen");
            return super.visitLiteral(tree, v);
        }


        @Override public Void visitMemberSelect(MemberSelectTree tree, Void v) {
            String of = tree.getExpression().toString();
            if (Character.isUpperCase(of.charAt(0)) && of.equals(of.split("[^A-Za-z]")[0]) && !TYPES.contains(of) && of.chars().anyMatch(Character::isLowerCase)) owners.add(of);
            return super.visitMemberSelect(tree, v);
        }

        @Override public Void visitThrow(ThrowTree tree, Void v) { refuse(tree, "throw"); return super.visitThrow(tree, v); }
        @Override public Void visitTry(TryTree tree, Void v) { refuse(tree, "try"); return super.visitTry(tree, v); }
        @Override public Void visitAssert(AssertTree tree, Void v) { refuse(tree, "assert"); return super.visitAssert(tree, v); }
        @Override public Void visitSynchronized(SynchronizedTree tree, Void v) { refuse(tree, "synchronized"); return super.visitSynchronized(tree, v); }
        @Override public Void visitLambdaExpression(LambdaExpressionTree tree, Void v) { refuse(tree, "a lambda"); return super.visitLambdaExpression(tree, v); }
        @Override public Void visitMemberReference(MemberReferenceTree tree, Void v) { refuse(tree, "a method reference"); return super.visitMemberReference(tree, v); }

        @Override public Void visitNewClass(NewClassTree tree, Void v) {
            if (tree.getClassBody() != null) refuse(tree, "an anonymous class");
            return super.visitNewClass(tree, v);
        }

        @Override public Void visitBinary(BinaryTree tree, Void v) {
            boolean text = isText(tree.getLeftOperand()) || isText(tree.getRightOperand());
            if (text) refuse(tree, "texts joined or compared by a sign");
            return super.visitBinary(tree, v);
        }

        private boolean isText(Tree part) {
            String type = typeOf(part).toString();
            return type.equals("java.lang.String") || type.equals("java.lang.Integer");
        }

        void tell() {
            if (classes.size() > 12) say("more than 12 classes");
            for (String owner : owners) if (!classes.contains(owner)) say("a class of the library that is not listed: " + owner);
            for (String name : otherNames) if (publicNames.contains(name) && !name.equals("<init>")) say("a private method bears a public one's name: " + name);
            for (String name : publicNames) {
                List<String> path = deepest(name, new ArrayList<>());
                if (path.size() > 8) say("calls go deeper than eight: " + path);
            }
        }

        /** The longest way of calls by names; a name that is on the way already is recursion and ends it. */
        private List<String> deepest(String name, List<String> way) {
            if (!calls.containsKey(name) || way.contains(name)) return way;
            List<String> here = new ArrayList<>(way);
            here.add(name);
            List<String> best = here;
            for (String next : calls.get(name)) {
                List<String> path = deepest(next, here);
                if (path.size() > best.size()) best = path;
            }
            return best;
        }
    }
}
