import com.sun.source.tree.AssertTree;
import com.sun.source.tree.BinaryTree;
import com.sun.source.tree.BlockTree;
import com.sun.source.tree.ClassTree;
import com.sun.source.tree.CompilationUnitTree;
import com.sun.source.tree.ImportTree;
import com.sun.source.tree.LambdaExpressionTree;
import com.sun.source.tree.MemberReferenceTree;
import com.sun.source.tree.MemberSelectTree;
import com.sun.source.tree.MethodTree;
import com.sun.source.tree.NewClassTree;
import com.sun.source.tree.SwitchExpressionTree;
import com.sun.source.tree.SynchronizedTree;
import com.sun.source.tree.ThrowTree;
import com.sun.source.tree.Tree;
import com.sun.source.tree.TryTree;
import com.sun.source.tree.VariableTree;
import com.sun.source.tree.WhileLoopTree;
import com.sun.source.util.JavacTask;
import com.sun.source.util.SourcePositions;
import com.sun.source.util.TreeScanner;
import com.sun.source.util.Trees;
import java.io.File;
import java.lang.reflect.Modifier;
import java.util.ArrayList;
import java.util.Arrays;
import java.util.HashSet;
import java.util.List;
import java.util.Set;
import java.util.TreeSet;
import javax.tools.JavaCompiler;
import javax.tools.StandardJavaFileManager;
import javax.tools.ToolProvider;

/** Those rules of LANGUAGE.md that can be seen from the text of the class or from its face. */
public final class LanguageTest {
    private static final String FILE = "src/main/java/SilenceBall.java";

    private static final String[] FACE = {"feed(long,long,long)int", "room()int", "evening()int", "guest(int,int)int", "belt(int,int)int",
        "man(int,int)int", "cast(int,int,int)boolean", "ask()int", "stop(int)int", "minute()int", "undo()boolean", "judged(int)int",
        "under()int", "cries()int", "later(int)int", "over(int)int", "sinks(int)int", "first()int", "home(int)int", "quiet()int",
        "when(int)int", "lost(int)int", "fits(int)int", "could(int)int", "best(int)int", "with(int)int", "need()int", "latest(int)int",
        "enough(int)int", "near(int)int", "gap(int,int)int", "row()int", "dense()int", "tight()int", "spare()int",
        "save(int,int,int)boolean", "worth(int)int", "see(int,int)boolean", "holes()int", "look()int", "chance(int,int,int)int",
        "rests(int,int,int,int)int", "balls(int,int,int)int", "mark(int,boolean)boolean", "count(int)int"};

    private static final Set<String> STATICS = Set.of("Integer.bitCount", "Math.abs", "Math.max", "Math.min", "System.arraycopy");

    private static final Set<String> names = new HashSet<>();
    private static int classes = 0;

    public static void main(String[] args) throws Exception {
        face();
        JavaCompiler compiler = ToolProvider.getSystemJavaCompiler();
        try (StandardJavaFileManager files = compiler.getStandardFileManager(null, null, null)) {
            JavacTask task = (JavacTask) compiler.getTask(null, files, null, List.of("-proc:none"), null,
                files.getJavaFileObjects(new File(FILE)));
            CompilationUnitTree unit = task.parse().iterator().next();
            Due.is("1: one class", unit.getTypeDecls().size(), 1);
            Due.is("no package", unit.getPackageName() == null, true);
            for (ImportTree one : unit.getImports()) {
                String name = one.getQualifiedIdentifier().toString();
                Due.is("import of " + name, name.equals("java.util.NoSuchElementException"), true);
            }
            new Reader(unit, Trees.instance(task).getSourcePositions()).scan(unit, null);
        }
        Due.is("11: some twelve classes, there are " + classes, classes <= 12, true);
        Due.end();
    }

    private static void face() {
        Set<String> found = new TreeSet<>();
        for (var method : SilenceBall.class.getDeclaredMethods()) {
            if (!Modifier.isPrivate(method.getModifiers())) {
                List<String> types = new ArrayList<>();
                for (Class<?> type : method.getParameterTypes()) {
                    types.add(type.getName());
                }
                found.add(method.getName() + "(" + String.join(",", types) + ")" + method.getReturnType().getName());
                names.add(method.getName());
            }
        }
        Due.is("1: the face " + found, found.equals(new TreeSet<>(Arrays.asList(FACE))), true);
        for (var field : SilenceBall.class.getDeclaredFields()) {
            boolean right = Modifier.isPrivate(field.getModifiers()) || field.getName().equals("NONE");
            Due.is("1: field " + field.getName(), right, true);
        }
        Due.is("1: one constructor", SilenceBall.class.getDeclaredConstructors().length, 1);
        Due.is("1: public and final", SilenceBall.class.getModifiers(), Modifier.PUBLIC | Modifier.FINAL);
    }

    private static final class Reader extends TreeScanner<Void, Void> {
        private final CompilationUnitTree unit;
        private final SourcePositions places;
        private MethodTree method;

        Reader(CompilationUnitTree unit, SourcePositions places) {
            this.unit = unit;
            this.places = places;
        }

        private long line(long place) {
            return unit.getLineMap().getLineNumber(place);
        }

        private void wrong(Tree tree, String rule) {
            Due.is("line " + line(places.getStartPosition(unit, tree)) + ", rule " + rule, false, true);
        }

        @Override
        public Void visitClass(ClassTree tree, Void none) {
            classes++;
            String flags = tree.getModifiers().getFlags().toString();
            boolean outer = tree.getSimpleName().contentEquals("SilenceBall");
            if (!outer && (!flags.contains("static") || flags.contains("public") || flags.contains("protected"))) {
                wrong(tree, "1, 2: a class inside");
            }
            int fields = 0;
            for (Tree member : tree.getMembers()) {
                if (member instanceof VariableTree field) {
                    String of = field.getModifiers().getFlags().toString();
                    fields += of.contains("static") ? 0 : 1;
                    if (of.contains("static") && !(of.contains("final") && field.getType().toString().matches("(int|long|boolean|char|String)(\\[\\])?"))) {
                        wrong(member, "5: a static field");
                    }
                }
                if (member instanceof BlockTree) {
                    wrong(member, "5: a static block");
                }
            }
            Due.is("11: fields of " + tree.getSimpleName(), fields <= 20, true);
            return super.visitClass(tree, none);
        }

        @Override
        public Void visitMethod(MethodTree tree, Void none) {
            method = tree;
            long lines = line(places.getEndPosition(unit, tree)) - line(places.getStartPosition(unit, tree)) + 1;
            Due.is("11: lines of " + tree.getName() + ": " + lines, lines <= 60, true);
            Due.is("11: parameters of " + tree.getName(), tree.getParameters().size() <= 7, true);
            boolean open = tree.getModifiers().getFlags().toString().contains("public");
            Due.is("1: the name of " + tree.getName(), open || !names.contains(tree.getName().toString()), true);
            super.visitMethod(tree, none);
            method = null;
            return none;
        }

        @Override
        public Void visitThrow(ThrowTree tree, Void none) {
            Due.is("6: throw in rests alone", method != null && method.getName().contentEquals("rests"), true);
            return super.visitThrow(tree, none);
        }

        @Override
        public Void visitMemberSelect(MemberSelectTree tree, Void none) {
            String text = tree.toString();
            if (text.matches("(Integer|Long|Math|System|Arrays|String)\\..*") && !STATICS.contains(text)) {
                wrong(tree, "4: " + text);
            }
            return super.visitMemberSelect(tree, none);
        }

        @Override
        public Void visitBinary(BinaryTree tree, Void none) {
            boolean text = tree.getLeftOperand().getKind() == Tree.Kind.STRING_LITERAL || tree.getRightOperand().getKind() == Tree.Kind.STRING_LITERAL;
            if (text) {
                wrong(tree, "10: texts by +");
            }
            return super.visitBinary(tree, none);
        }

        @Override
        public Void visitNewClass(NewClassTree tree, Void none) {
            boolean made = method == null || method.getReturnType() == null || tree.getIdentifier().toString().equals("NoSuchElementException");
            if (!made || tree.getClassBody() != null) {
                wrong(tree, "12: objects are made in constructors");
            }
            return super.visitNewClass(tree, none);
        }

        @Override
        public Void visitWhileLoop(WhileLoopTree tree, Void none) {
            Due.is("9: a while with a bound", tree.getCondition().toString().contains(" < "), true);
            return super.visitWhileLoop(tree, none);
        }

        @Override
        public Void visitLambdaExpression(LambdaExpressionTree tree, Void none) {
            wrong(tree, "2: a lambda");
            return null;
        }

        @Override
        public Void visitMemberReference(MemberReferenceTree tree, Void none) {
            wrong(tree, "2: a method reference");
            return null;
        }

        @Override
        public Void visitTry(TryTree tree, Void none) {
            wrong(tree, "6: nothing here throws that could be caught");
            return null;
        }

        @Override
        public Void visitSynchronized(SynchronizedTree tree, Void none) {
            wrong(tree, "6: synchronized");
            return null;
        }

        @Override
        public Void visitAssert(AssertTree tree, Void none) {
            wrong(tree, "6: assert");
            return null;
        }

        @Override
        public Void visitSwitchExpression(SwitchExpressionTree tree, Void none) {
            wrong(tree, "10: a switch that is an expression");
            return null;
        }
    }
}
