import com.sun.source.tree.ClassTree;
import com.sun.source.tree.CompilationUnitTree;
import com.sun.source.tree.IdentifierTree;
import com.sun.source.tree.LineMap;
import com.sun.source.tree.MemberSelectTree;
import com.sun.source.tree.MethodInvocationTree;
import com.sun.source.tree.MethodTree;
import com.sun.source.tree.NewClassTree;
import com.sun.source.tree.Tree;
import com.sun.source.tree.VariableTree;
import com.sun.source.util.JavacTask;
import com.sun.source.util.SourcePositions;
import com.sun.source.util.TreeScanner;
import com.sun.source.util.Trees;
import java.io.File;
import java.io.IOException;
import java.util.ArrayList;
import java.util.HashMap;
import java.util.List;
import java.util.Map;
import java.util.Set;
import java.util.TreeSet;
import javax.lang.model.element.Modifier;
import javax.tools.JavaCompiler;
import javax.tools.StandardJavaFileManager;
import javax.tools.ToolProvider;

/** Holds the program against those rules of LANGUAGE.md that its text alone can break. */
public final class LanguageTest {
    private static final String FILE = "src/main/java/PictureRing.java";
    private static final int MOST_LINES = 60, MOST_PARAMETERS = 7, MOST_CLASSES = 12;
    private static final int MOST_FIELDS = 20, MOST_DEPTH = 8;
    private static final Set<String> LIBRARY = Set.of("String", "StringBuilder", "Integer", "Long",
            "Math", "System", "Arrays", "ArrayList", "List", "Iterator", "Iterable", "Comparable");
    private static final Set<Tree.Kind> RULED_OUT = Set.of(Tree.Kind.THROW, Tree.Kind.TRY,
            Tree.Kind.CATCH, Tree.Kind.SYNCHRONIZED, Tree.Kind.ASSERT, Tree.Kind.LAMBDA_EXPRESSION,
            Tree.Kind.MEMBER_REFERENCE, Tree.Kind.IMPORT, Tree.Kind.PACKAGE);
    private static final Set<String> FACE = Set.of("PictureRing", "world", "dots", "shot", "paint",
            "drops", "sets", "value", "change", "corners", "votes", "link", "chain", "all", "place",
            "overlap", "seam", "level", "rest", "shows", "seen", "type", "clear", "reads", "why",
            "back", "told", "digest", "NONE", "BAD", "NO", "FULL");

    private static int wrong = 0;

    private static void hold(boolean holds, String what) {
        if (!holds) {
            wrong++;
            System.out.println(what);
        }
    }

    public static void main(String[] args) throws IOException {
        JavaCompiler javac = ToolProvider.getSystemJavaCompiler();
        StandardJavaFileManager files = javac.getStandardFileManager(null, null, null);
        JavacTask task = (JavacTask) javac.getTask(null, files, null, null, null,
                files.getJavaFileObjects(new File(FILE)));
        CompilationUnitTree unit = task.parse().iterator().next();
        Scan scan = new Scan(unit, Trees.instance(task).getSourcePositions());
        scan.scan(unit, null);
        scan.judge();
        System.out.println(wrong == 0 ? "the language is kept" : wrong + " rules are broken");
        if (wrong != 0) {
            System.exit(1);
        }
    }

    private static final class Scan extends TreeScanner<Void, Void> {
        final CompilationUnitTree unit;
        final SourcePositions positions;
        final LineMap lines;
        final Map<String, Set<String>> calls = new HashMap<>();
        final Set<String> own = new TreeSet<>();
        final Set<String> face = new TreeSet<>();
        final Set<String> hidden = new TreeSet<>();
        final List<String> names = new ArrayList<>();
        int classes = 0;
        int depth = 0;
        Set<String> called = new TreeSet<>();

        Scan(CompilationUnitTree unit, SourcePositions positions) {
            this.unit = unit;
            this.positions = positions;
            this.lines = unit.getLineMap();
        }

        void judge() {
            hold(face.equals(new TreeSet<>(FACE)), "rule 1: the face is " + face);
            for (String name : hidden) {
                hold(!FACE.contains(name), "rule 1: a private method bears the name " + name);
            }
            hold(classes <= MOST_CLASSES, "rule 11: " + classes + " classes");
            for (String name : names) {
                boolean type = Character.isUpperCase(name.charAt(0)) && !name.equals(name.toUpperCase());
                hold(!type || own.contains(name) || LIBRARY.contains(name), "rule 4: " + name);
            }
            for (String method : calls.keySet()) {
                int deep = deepest(method, new ArrayList<>());
                hold(deep <= MOST_DEPTH, "rule 11: " + method + " goes " + deep + " deep");
            }
        }

        /** By names alone: methods of one name count as one, so this is never too little. */
        private int deepest(String method, List<String> open) {
            hold(!open.contains(method), "rule 8: " + method + " calls itself: " + open);
            if (open.contains(method)) {
                return 0;
            }
            open.add(method);
            int most = 0;
            for (String next : calls.getOrDefault(method, Set.of())) {
                most = Math.max(most, deepest(next, open));
            }
            open.remove(open.size() - 1);
            return 1 + most;
        }

        private long line(long position) {
            return lines.getLineNumber(position);
        }

        @Override
        public Void scan(Tree tree, Void nothing) {
            if (tree != null && RULED_OUT.contains(tree.getKind())) {
                hold(false, tree.getKind() + " in line " + line(positions.getStartPosition(unit, tree)));
            }
            return super.scan(tree, nothing);
        }

        @Override
        public Void visitClass(ClassTree tree, Void nothing) {
            classes++;
            depth++;
            own.add(tree.getSimpleName().toString());
            Set<Modifier> modifiers = tree.getModifiers().getFlags();
            if (depth > 1) {
                hold(modifiers.contains(Modifier.STATIC), "rule 1: not static: " + tree.getSimpleName());
                hold(!modifiers.contains(Modifier.PUBLIC) && !modifiers.contains(Modifier.PROTECTED),
                        "rule 1: seen from outside: " + tree.getSimpleName());
            }
            int fields = 0;
            for (Tree member : tree.getMembers()) {
                hold(member.getKind() != Tree.Kind.BLOCK, "rule 5: an initialiser block");
                if (member instanceof VariableTree field) {
                    fields += field.getModifiers().getFlags().contains(Modifier.STATIC) ? 0 : 1;
                    note(field.getName().toString(), field.getModifiers().getFlags(), false);
                    hold(!field.getModifiers().getFlags().contains(Modifier.STATIC)
                            || field.getModifiers().getFlags().contains(Modifier.FINAL),
                            "rule 5: not final: " + field.getName());
                }
            }
            hold(fields <= MOST_FIELDS, "rule 11: " + fields + " fields in " + tree.getSimpleName());
            super.visitClass(tree, nothing);
            depth--;
            return null;
        }

        private void note(String name, Set<Modifier> modifiers, boolean method) {
            if (modifiers.contains(Modifier.PRIVATE)) {
                if (method) {
                    hidden.add(name);
                }
            } else if (depth == 1) {
                hold(modifiers.contains(Modifier.PUBLIC), "rule 1: neither public nor private: " + name);
                face.add(name);
            }
        }

        @Override
        public Void visitMethod(MethodTree tree, Void nothing) {
            String name = tree.getName().toString();
            boolean made = name.equals("<init>");
            note(made ? "PictureRing" : name, tree.getModifiers().getFlags(), !made);
            long first = line(positions.getStartPosition(unit, tree));
            long last = line(positions.getEndPosition(unit, tree));
            hold(last - first < MOST_LINES, "rule 11: long: " + name);
            hold(tree.getParameters().size() <= MOST_PARAMETERS, "rule 11: parameters: " + name);
            called = calls.computeIfAbsent(name, n -> new TreeSet<>());
            return super.visitMethod(tree, nothing);
        }

        @Override
        public Void visitMethodInvocation(MethodInvocationTree tree, Void nothing) {
            Tree select = tree.getMethodSelect();
            String name = select instanceof MemberSelectTree member
                    ? member.getIdentifier().toString() : select.toString();
            called.add(name);
            return super.visitMethodInvocation(tree, nothing);
        }

        @Override
        public Void visitNewClass(NewClassTree tree, Void nothing) {
            hold(tree.getClassBody() == null, "rule 2: an anonymous class");
            return super.visitNewClass(tree, nothing);
        }

        @Override
        public Void visitIdentifier(IdentifierTree tree, Void nothing) {
            names.add(tree.getName().toString());
            return super.visitIdentifier(tree, nothing);
        }
    }
}
