import com.sun.management.ThreadMXBean;
import com.sun.source.tree.AssertTree;
import com.sun.source.tree.BinaryTree;
import com.sun.source.tree.BlockTree;
import com.sun.source.tree.CatchTree;
import com.sun.source.tree.ClassTree;
import com.sun.source.tree.CompilationUnitTree;
import com.sun.source.tree.ForLoopTree;
import com.sun.source.tree.ImportTree;
import com.sun.source.tree.LambdaExpressionTree;
import com.sun.source.tree.MemberReferenceTree;
import com.sun.source.tree.MemberSelectTree;
import com.sun.source.tree.MethodTree;
import com.sun.source.tree.NewClassTree;
import com.sun.source.tree.SynchronizedTree;
import com.sun.source.tree.ThrowTree;
import com.sun.source.tree.Tree;
import com.sun.source.tree.TryTree;
import com.sun.source.tree.VariableTree;
import com.sun.source.tree.WhileLoopTree;
import com.sun.source.util.JavacTask;
import com.sun.source.util.SourcePositions;
import com.sun.source.util.TreeScanner;
import com.sun.source.util.Trees;
import java.io.File;
import java.lang.management.ManagementFactory;
import java.lang.reflect.Modifier;
import java.util.ArrayList;
import java.util.Arrays;
import java.util.HashSet;
import java.util.List;
import java.util.Set;
import java.util.TreeSet;
import javax.tools.JavaCompiler;
import javax.tools.StandardJavaFileManager;
import javax.tools.ToolProvider;

/** Those rules of LANGUAGE.md that can be seen from the text of the class or from its face. */
public final class LanguageTest {
    private static final String FILE = "src/main/java/SilenceBall.java";

    private static final String[] FACE = {"feed(long,long,long)int", "room()int", "evening()int", "guest(int,int)int", "belt(int,int)int",
        "man(int,int)int", "cast(int,int,int)boolean", "ask()int", "stop(int)int", "minute()int", "undo()boolean", "judged(int)int",
        "under()int", "cries()int", "later(int)int", "over(int)int", "sinks(int)int", "first()int", "home(int)int", "quiet()int",
        "when(int)int", "lost(int)int", "fits(int)int", "could(int)int", "best(int)int", "with(int)int", "need()int", "latest(int)int",
        "enough(int)int", "near(int)int", "gap(int,int)int", "row()int", "dense()int", "tight()int", "spare()int",
        "save(int,int,int)boolean", "worth(int)int", "see(int,int)boolean", "holes()int", "look()int", "chance(int,int,int)int",
        "rests(int,int,int,int)int", "balls(int,int,int)int", "mark(int,boolean)boolean", "count(int)int"};

    private static final Set<String> IMPORTS = Set.of("java.util.NoSuchElementException", "java.util.ArrayList", "java.util.List", "java.util.Arrays",
        "java.util.Iterator");
    private static final Set<String> THROWN = Set.of("IllegalStateException", "IllegalArgumentException", "IndexOutOfBoundsException",
        "ArithmeticException", "UnsupportedOperationException", "NoSuchElementException", "RuntimeException");
    private static final String LIBRARY = "(Integer|Long|Math)\\.(?!\\w*Exact$)\\w+|System\\.arraycopy|Arrays\\.(copyOf|copyOfRange|fill)";

    private static final Set<String> names = new HashSet<>();
    private static int classes = 0;

    public static void main(String[] args) throws Exception {
        face();
        JavaCompiler compiler = ToolProvider.getSystemJavaCompiler();
        try (StandardJavaFileManager files = compiler.getStandardFileManager(null, null, null)) {
            JavacTask task = (JavacTask) compiler.getTask(null, files, null, List.of("-proc:none"), null,
                files.getJavaFileObjects(new File(FILE)));
            CompilationUnitTree unit = task.parse().iterator().next();
            Due.is("1: one class", unit.getTypeDecls().size(), 1);
            Due.is("no package", unit.getPackageName() == null, true);
            for (ImportTree one : unit.getImports()) {
                String name = one.getQualifiedIdentifier().toString();
                Due.is("4: import of " + name, IMPORTS.contains(name), true);
            }
            new Reader(unit, Trees.instance(task).getSourcePositions()).scan(unit, null);
        }
        Due.is("11: some twelve classes, there are " + classes, classes <= 14, true);
        made();
        Due.end();
    }

    /** Rule 12: what a run makes is kept small; the room of all runs is some fifty million bytes. */
    private static void made() {
        ThreadMXBean threads = (ThreadMXBean) ManagementFactory.getThreadMXBean();
        long ahead = threads.getCurrentThreadAllocatedBytes();
        SilenceBall ball = new SilenceBall();
        ball.feed(0x7269736573203120L, 0x3b0a686f6c657320L, 0x31203b0000000000L);
        int fault = ball.room();
        int look = 0;
        for (int n = 0; n < 84; n++) {
            ball.minute();
            ball.mark(n % 4, false);
            look += ball.look() + ball.worth(0) + ball.best(-1) + ball.chance(0, 6, 5);
        }
        long bytes = threads.getCurrentThreadAllocatedBytes() - ahead;
        Due.is("the room of the run", fault, 0);
        Due.is("what the run answers", look, 84 * -3);
        Due.is("12: bytes of a run: " + bytes, bytes < 400000, true);
    }

    private static void face() {
        Set<String> found = new TreeSet<>();
        for (var method : SilenceBall.class.getDeclaredMethods()) {
            if (!Modifier.isPrivate(method.getModifiers())) {
                List<String> types = new ArrayList<>();
                for (Class<?> type : method.getParameterTypes()) {
                    types.add(type.getName());
                }
                found.add(method.getName() + "(" + String.join(",", types) + ")" + method.getReturnType().getName());
                names.add(method.getName());
            }
        }
        Due.is("1: the face " + found, found.equals(new TreeSet<>(Arrays.asList(FACE))), true);
        for (var field : SilenceBall.class.getDeclaredFields()) {
            boolean right = Modifier.isPrivate(field.getModifiers()) || field.getName().equals("NONE");
            Due.is("1: field " + field.getName(), right, true);
        }
        Due.is("1: one constructor", SilenceBall.class.getDeclaredConstructors().length, 1);
        Due.is("1: public and final", SilenceBall.class.getModifiers(), Modifier.PUBLIC | Modifier.FINAL);
    }

    private static final class Reader extends TreeScanner<Void, Void> {
        private final CompilationUnitTree unit;
        private final SourcePositions places;
        private MethodTree method;

        Reader(CompilationUnitTree unit, SourcePositions places) {
            this.unit = unit;
            this.places = places;
        }

        private long line(long place) {
            return unit.getLineMap().getLineNumber(place);
        }

        private void wrong(Tree tree, String rule) {
            Due.is("line " + line(places.getStartPosition(unit, tree)) + ", rule " + rule, false, true);
        }

        @Override
        public Void visitClass(ClassTree tree, Void none) {
            classes++;
            String flags = tree.getModifiers().getFlags().toString();
            boolean outer = tree.getSimpleName().contentEquals("SilenceBall");
            if (!outer && (!flags.contains("static") || flags.contains("public") || flags.contains("protected"))) {
                wrong(tree, "1, 2: a class inside");
            }
            int fields = 0;
            for (Tree member : tree.getMembers()) {
                if (member instanceof VariableTree field) {
                    String of = field.getModifiers().getFlags().toString();
                    fields += of.contains("static") ? 0 : 1;
                    if (of.contains("static") && !(of.contains("final") && field.getType().toString().matches("(int|long|boolean|char|String)(\\[\\])?"))) {
                        wrong(member, "5: a static field");
                    }
                }
                if (member instanceof BlockTree) {
                    wrong(member, "5: a static block");
                }
            }
            Due.is("11: fields of " + tree.getSimpleName(), fields <= 24, true);
            return super.visitClass(tree, none);
        }

        @Override
        public Void visitMethod(MethodTree tree, Void none) {
            method = tree;
            long lines = line(places.getEndPosition(unit, tree)) - line(places.getStartPosition(unit, tree)) + 1;
            Due.is("11: lines of " + tree.getName() + ": " + lines, lines <= 70, true);
            Due.is("11: parameters of " + tree.getName(), tree.getParameters().size() <= 7, true);
            boolean open = tree.getModifiers().getFlags().toString().contains("public");
            Due.is("1: the name of " + tree.getName(), open || !names.contains(tree.getName().toString()), true);
            super.visitMethod(tree, none);
            method = null;
            return none;
        }

        @Override
        public Void visitThrow(ThrowTree tree, Void none) {
            boolean right = tree.getExpression() instanceof NewClassTree made && THROWN.contains(made.getIdentifier().toString())
                && (made.getArguments().isEmpty() || made.getArguments().get(0).getKind() == Tree.Kind.STRING_LITERAL);
            if (!right || method == null || method.getReturnType() == null || method.getBody().toString().contains("try {")) {
                wrong(tree, "6: a throw");
            }
            return super.visitThrow(tree, none);
        }

        @Override
        public Void visitTry(TryTree tree, Void none) {
            boolean right = tree.getFinallyBlock() == null && tree.getResources().isEmpty();
            for (CatchTree one : tree.getCatches()) {
                right &= THROWN.contains(one.getParameter().getType().toString());
            }
            if (!right) {
                wrong(tree, "6: a try");
            }
            return super.visitTry(tree, none);
        }

        @Override
        public Void visitMemberSelect(MemberSelectTree tree, Void none) {
            String text = tree.toString();
            if (text.matches("(Integer|Long|Math|System|Arrays|String|Character|Boolean)\\..*") && !text.matches(LIBRARY)) {
                wrong(tree, "4: " + text);
            }
            return super.visitMemberSelect(tree, none);
        }

        @Override
        public Void visitBinary(BinaryTree tree, Void none) {
            boolean text = tree.getLeftOperand().getKind() == Tree.Kind.STRING_LITERAL || tree.getRightOperand().getKind() == Tree.Kind.STRING_LITERAL;
            if (text) {
                wrong(tree, "10: texts by +");
            }
            return super.visitBinary(tree, none);
        }

        @Override
        public Void visitWhileLoop(WhileLoopTree tree, Void none) {
            Due.is("9: a while with an end", tree.getCondition().toString().equals("(true)"), false);
            return super.visitWhileLoop(tree, none);
        }

        @Override
        public Void visitForLoop(ForLoopTree tree, Void none) {
            Due.is("9: a for with an end", tree.getCondition() != null, true);
            return super.visitForLoop(tree, none);
        }

        @Override
        public Void visitLambdaExpression(LambdaExpressionTree tree, Void none) {
            wrong(tree, "2: a lambda");
            return null;
        }

        @Override
        public Void visitMemberReference(MemberReferenceTree tree, Void none) {
            wrong(tree, "2: a method reference");
            return null;
        }

        @Override
        public Void visitSynchronized(SynchronizedTree tree, Void none) {
            wrong(tree, "6: synchronized");
            return null;
        }

        @Override
        public Void visitAssert(AssertTree tree, Void none) {
            wrong(tree, "6: assert");
            return null;
        }
    }
}
