import com.sun.source.tree.*;
import com.sun.source.util.JavacTask;
import com.sun.source.util.TreePathScanner;
import java.nio.file.Files;
import java.nio.file.Path;
import java.util.*;
import javax.lang.model.element.Modifier;
import javax.tools.JavaCompiler;
import javax.tools.ToolProvider;

/** Looks at the program's source for what ../shared/LANGUAGE.md rules out, as far as a scan of its tree can tell. */
public final class LanguageRules {
    private static int wrong = 0;

    private static void say(String what) {
        wrong++;
        System.out.println(what);
    }

    public static void main(String[] args) throws Exception {
        Path file = Path.of(args[0]);
        for (byte b : Files.readAllBytes(file)) if (b < 0) say("a sign beyond 127 in the source");
        JavaCompiler compiler = ToolProvider.getSystemJavaCompiler();
        var files = compiler.getStandardFileManager(null, null, null);
        JavacTask task = (JavacTask) compiler.getTask(null, files, null, List.of("-proc:none"), null, files.getJavaFileObjects(file));
        CompilationUnitTree unit = task.parse().iterator().next();
        Scan scan = new Scan(unit);
        scan.scan(unit, null);
        scan.tell();
        if (wrong != 0) System.exit(1);
    }

    private static final class Scan extends TreePathScanner<Void, Void> {
        private static final Set<String> TYPES = Set.of("String", "StringBuilder", "Integer", "ArrayList", "List", "Long", "Math", "System", "Arrays");
        private final CompilationUnitTree unit;
        private final Set<String> publicNames = new HashSet<>();
        private final Set<String> otherNames = new HashSet<>();
        private final Set<String> classes = new HashSet<>();
        private final Set<String> owners = new HashSet<>();
        private final Map<String, Set<String>> calls = new HashMap<>();
        private String method = "";

        Scan(CompilationUnitTree unit) {
            this.unit = unit;
            if (!unit.getImports().isEmpty()) say("an import that is not needed");
            if (unit.getPackageName() != null) say("a package line");
        }

        private void refuse(Tree tree, String what) {
            say(what + ": " + tree.toString().lines().findFirst().orElse(""));
        }

        private long lines(Tree tree) {
            return tree.toString().lines().count();
        }

        @Override public Void visitClass(ClassTree tree, Void v) {
            boolean outer = classes.isEmpty();
            classes.add(tree.getSimpleName().toString());
            Set<Modifier> flags = tree.getModifiers().getFlags();
            if (outer ? !flags.contains(Modifier.PUBLIC) || !flags.contains(Modifier.FINAL) : !flags.contains(Modifier.STATIC) || flags.contains(Modifier.PUBLIC))
                refuse(tree, "a class that is not as rule 1 or 2 says");
            int fields = 0;
            for (Tree member : tree.getMembers()) {
                if (member.getKind() == Tree.Kind.BLOCK) refuse(member, "a block of initialisers");
                if (member instanceof VariableTree field && !field.getModifiers().getFlags().contains(Modifier.STATIC)) fields++;
                Set<Modifier> has = member instanceof VariableTree f ? f.getModifiers().getFlags() : member instanceof MethodTree m ? m.getModifiers().getFlags() : Set.of(Modifier.PRIVATE);
                if (outer && !has.contains(Modifier.PUBLIC) && !has.contains(Modifier.PRIVATE)) refuse(member, "a member that is neither of the face nor private");
            }
            if (fields > 20) refuse(tree, "more than 20 fields");
            return super.visitClass(tree, v);
        }

        @Override public Void visitMethod(MethodTree tree, Void v) {
            String name = tree.getName().toString();
            (tree.getModifiers().getFlags().contains(Modifier.PUBLIC) ? publicNames : otherNames).add(name);
            if (tree.getParameters().size() > 7) refuse(tree, "more than seven parameters");
            if (lines(tree) > 60) refuse(tree, "a long method");
            if (!tree.getThrows().isEmpty()) refuse(tree, "throws");
            method = name;
            calls.computeIfAbsent(name, key -> new HashSet<>());
            super.visitMethod(tree, v);
            method = "";
            return null;
        }

        @Override public Void visitVariable(VariableTree tree, Void v) {
            Set<Modifier> flags = tree.getModifiers().getFlags();
            if (flags.contains(Modifier.STATIC) && !flags.contains(Modifier.FINAL)) refuse(tree, "a static field that is not final");
            return super.visitVariable(tree, v);
        }

        @Override public Void visitMethodInvocation(MethodInvocationTree tree, Void v) {
            String called = tree.getMethodSelect().toString();
            String name = called.substring(called.lastIndexOf('.') + 1);
            if (name.endsWith("Exact")) refuse(tree, "a function that throws");
            if (!method.isEmpty()) calls.get(method).add(name);
            return super.visitMethodInvocation(tree, v);
        }

        @Override public Void visitMemberSelect(MemberSelectTree tree, Void v) {
            String of = tree.getExpression().toString();
            if (Character.isUpperCase(of.charAt(0)) && of.equals(of.split("[^A-Za-z]")[0]) && !TYPES.contains(of) && of.chars().anyMatch(Character::isLowerCase)) owners.add(of);
            return super.visitMemberSelect(tree, v);
        }

        @Override public Void visitThrow(ThrowTree tree, Void v) { refuse(tree, "throw"); return super.visitThrow(tree, v); }
        @Override public Void visitTry(TryTree tree, Void v) { refuse(tree, "try"); return super.visitTry(tree, v); }
        @Override public Void visitAssert(AssertTree tree, Void v) { refuse(tree, "assert"); return super.visitAssert(tree, v); }
        @Override public Void visitSynchronized(SynchronizedTree tree, Void v) { refuse(tree, "synchronized"); return super.visitSynchronized(tree, v); }
        @Override public Void visitLambdaExpression(LambdaExpressionTree tree, Void v) { refuse(tree, "a lambda"); return super.visitLambdaExpression(tree, v); }
        @Override public Void visitMemberReference(MemberReferenceTree tree, Void v) { refuse(tree, "a method reference"); return super.visitMemberReference(tree, v); }

        @Override public Void visitNewClass(NewClassTree tree, Void v) {
            if (tree.getClassBody() != null) refuse(tree, "an anonymous class");
            return super.visitNewClass(tree, v);
        }

        @Override public Void visitBinary(BinaryTree tree, Void v) {
            boolean text = tree.getLeftOperand().getKind() == Tree.Kind.STRING_LITERAL || tree.getRightOperand().getKind() == Tree.Kind.STRING_LITERAL;
            if (text) refuse(tree, "texts joined by a sign");
            return super.visitBinary(tree, v);
        }

        void tell() {
            if (classes.size() > 12) say("more than 12 classes");
            for (String owner : owners) if (!classes.contains(owner)) say("a class of the library that is not listed: " + owner);
            for (String name : otherNames) if (publicNames.contains(name) && !name.equals("<init>")) say("a private method bears a public one's name: " + name);
            for (String name : publicNames) {
                List<String> path = deepest(name, new ArrayList<>());
                if (path.size() > 8) say("calls go deeper than eight: " + path);
            }
        }

        /** The longest way of calls by names; a name that is on the way already is recursion and ends it. */
        private List<String> deepest(String name, List<String> way) {
            if (!calls.containsKey(name) || way.contains(name)) return way;
            List<String> here = new ArrayList<>(way);
            here.add(name);
            List<String> best = here;
            for (String next : calls.get(name)) {
                List<String> path = deepest(next, here);
                if (path.size() > best.size()) best = path;
            }
            return best;
        }
    }
}
