import com.sun.source.tree.AssertTree;
import com.sun.source.tree.BinaryTree;
import com.sun.source.tree.CatchTree;
import com.sun.source.tree.ClassTree;
import com.sun.source.tree.CompilationUnitTree;
import com.sun.source.tree.ExpressionTree;
import com.sun.source.tree.ImportTree;
import com.sun.source.tree.LambdaExpressionTree;
import com.sun.source.tree.LiteralTree;
import com.sun.source.tree.MemberReferenceTree;
import com.sun.source.tree.MethodInvocationTree;
import com.sun.source.tree.MethodTree;
import com.sun.source.tree.NewClassTree;
import com.sun.source.tree.SynchronizedTree;
import com.sun.source.tree.ThrowTree;
import com.sun.source.tree.Tree;
import com.sun.source.tree.TryTree;
import com.sun.source.tree.TypeCastTree;
import com.sun.source.tree.VariableTree;
import com.sun.source.tree.WhileLoopTree;
import com.sun.source.util.JavacTask;
import com.sun.source.util.SourcePositions;
import com.sun.source.util.TreePathScanner;
import com.sun.source.util.Trees;
import java.io.File;
import java.util.ArrayDeque;
import java.util.Deque;
import java.util.HashSet;
import java.util.List;
import java.util.Set;
import java.util.TreeSet;
import javax.lang.model.element.Modifier;
import javax.tools.JavaCompiler;
import javax.tools.StandardJavaFileManager;
import javax.tools.ToolProvider;

/** The rules of LANGUAGE.md that can be seen in the text of the program. */
public final class LanguageTest {
    static final String FACE = "HoleDesk kind kindOf meet nodes cursor told part sign hole go seek put take unwrap "
        + "write rename move shelve fill undo offers offer work resume steps where value left seen box keep boxed "
        + "share asked count finding findings digest BAD FULL FINDING STATE CAUGHT NONE";

    public static void main(String[] args) throws Exception {
        File file = new File("src/main/java/HoleDesk.java");
        JavaCompiler compiler = ToolProvider.getSystemJavaCompiler();
        try (StandardJavaFileManager files = compiler.getStandardFileManager(null, null, null)) {
            JavacTask task = (JavacTask) compiler.getTask(null, files, null, List.of("-proc:none"), null,
                files.getJavaFileObjects(file));
            Iterable<? extends CompilationUnitTree> units = task.parse();
            SourcePositions positions = Trees.instance(task).getSourcePositions();
            for (CompilationUnitTree unit : units) {
                new Rules(unit, positions).scan(unit, null);
            }
        }
        Desk.end();
    }

    static void hold(String rule, boolean holds) {
        Desk.due(rule, holds ? 1 : 0, 1);
    }

    static final class Rules extends TreePathScanner<Void, Void> {
        final CompilationUnitTree unit;
        final SourcePositions positions;
        final Set<String> face = new HashSet<>(List.of(FACE.split(" ")));
        final Set<String> met = new TreeSet<>();
        final Deque<String> classes = new ArrayDeque<>();
        int classCount = 0;

        Rules(CompilationUnitTree unit, SourcePositions positions) {
            this.unit = unit;
            this.positions = positions;
        }

        long line(long position) {
            return unit.getLineMap().getLineNumber(position);
        }

        void none(String rule, Tree tree) {
            hold(rule + " in line " + line(positions.getStartPosition(unit, tree)), false);
        }

        @Override public Void visitCompilationUnit(CompilationUnitTree tree, Void v) {
            hold("no package", tree.getPackageName() == null);
            hold("one class", tree.getTypeDecls().size() == 1);
            super.visitCompilationUnit(tree, v);
            Set<String> wanted = new TreeSet<>(face);
            wanted.add("<init>");
            wanted.remove("HoleDesk");
            Desk.due("1: the face", met.toString(), wanted.toString());
            hold("11: classes", classCount <= 12);
            return null;
        }

        @Override public Void visitImport(ImportTree tree, Void v) {
            none("an import", tree);
            return null;
        }

        @Override public Void visitClass(ClassTree tree, Void v) {
            classCount++;
            Set<Modifier> flags = tree.getModifiers().getFlags();
            String name = tree.getSimpleName().toString();
            if (classes.isEmpty()) {
                hold("1: public and final", flags.contains(Modifier.PUBLIC) && flags.contains(Modifier.FINAL));
            } else {
                hold("2: static inside: " + name, flags.contains(Modifier.STATIC) && classes.size() == 1);
                hold("2: private inside: " + name, flags.contains(Modifier.PRIVATE));
            }
            int fields = 0;
            for (Tree member : tree.getMembers()) {
                if (member instanceof VariableTree field) {
                    boolean constant = field.getModifiers().getFlags().contains(Modifier.STATIC);
                    fields += constant ? 0 : 1;
                    hold("5: a static field is final: " + field.getName(),
                        !constant || field.getModifiers().getFlags().contains(Modifier.FINAL));
                    member(classes.isEmpty(), field.getModifiers().getFlags(), field.getName().toString());
                } else if (member.getKind() == Tree.Kind.BLOCK) {
                    none("5: an initialiser block", member);
                }
            }
            hold("11: fields of " + name, fields <= 20);
            classes.push(name);
            super.visitClass(tree, v);
            classes.pop();
            return null;
        }

        void member(boolean outer, Set<Modifier> flags, String name) {
            if (outer && !flags.contains(Modifier.PRIVATE)) {
                hold("1: no other member: " + name, flags.contains(Modifier.PUBLIC));
                met.add(name);
            }
        }

        @Override public Void visitMethod(MethodTree tree, Void v) {
            String name = tree.getName().toString();
            member(classes.size() == 1, tree.getModifiers().getFlags(), name);
            if (classes.size() > 1 || !tree.getModifiers().getFlags().contains(Modifier.PUBLIC)) {
                hold("1: bears the name of a public one: " + name, !face.contains(name));
            }
            hold("11: parameters of " + name, tree.getParameters().size() <= 7);
            long from = line(positions.getStartPosition(unit, tree));
            long to = line(positions.getEndPosition(unit, tree));
            hold("11: lines of " + name + ": " + (to - from + 1), to - from < 60);
            hold("2: no overriding of equals, hashCode, toString",
                !List.of("equals", "hashCode", "toString").contains(name));
            return super.visitMethod(tree, v);
        }

        @Override public Void visitThrow(ThrowTree tree, Void v) {
            none("6: throw", tree);
            return null;
        }

        @Override public Void visitTry(TryTree tree, Void v) {
            none("6: try", tree);
            return null;
        }

        @Override public Void visitCatch(CatchTree tree, Void v) {
            none("6: catch", tree);
            return null;
        }

        @Override public Void visitSynchronized(SynchronizedTree tree, Void v) {
            none("6: synchronized", tree);
            return null;
        }

        @Override public Void visitAssert(AssertTree tree, Void v) {
            none("6: assert", tree);
            return null;
        }

        @Override public Void visitLambdaExpression(LambdaExpressionTree tree, Void v) {
            none("2: a lambda", tree);
            return null;
        }

        @Override public Void visitMemberReference(MemberReferenceTree tree, Void v) {
            none("2: a method reference", tree);
            return null;
        }

        @Override public Void visitNewClass(NewClassTree tree, Void v) {
            if (tree.getClassBody() != null) {
                none("2: an anonymous class", tree);
            }
            return super.visitNewClass(tree, v);
        }

        @Override public Void visitTypeCast(TypeCastTree tree, Void v) {
            if (!List.of("int", "long", "char").contains(tree.getType().toString())) {
                none("6: a cast", tree);
            }
            return super.visitTypeCast(tree, v);
        }

        @Override public Void visitLiteral(LiteralTree tree, Void v) {
            if (tree.getValue() instanceof String text) {
                hold("4: signs of a constant", text.chars().allMatch(c -> c >= 1 && c <= 127));
            }
            return null;
        }

        @Override public Void visitBinary(BinaryTree tree, Void v) {
            if (tree.getKind() == Tree.Kind.PLUS && (isText(tree.getLeftOperand()) || isText(tree.getRightOperand()))) {
                none("10: joining texts by +", tree);
            }
            return super.visitBinary(tree, v);
        }

        static boolean isText(ExpressionTree tree) {
            return tree.getKind() == Tree.Kind.STRING_LITERAL;
        }

        /** Of the library only these are used. */
        @Override public Void visitMethodInvocation(MethodInvocationTree tree, Void v) {
            String text = tree.getMethodSelect().toString();
            if (text.startsWith("Math.") || text.startsWith("Integer.") || text.startsWith("Arrays.")
                || text.startsWith("System.")) {
                hold("4: " + text, List.of("Math.min", "Math.max", "Math.abs", "System.arraycopy", "Arrays.fill")
                    .contains(text));
            }
            return super.visitMethodInvocation(tree, v);
        }

        @Override public Void visitWhileLoop(WhileLoopTree tree, Void v) {
            String condition = tree.getCondition().toString();
            hold("9: a loop's end: " + condition, condition.contains("!= null") || condition.contains("<"));
            return super.visitWhileLoop(tree, v);
        }
    }
}
