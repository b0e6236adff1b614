import com.sun.source.tree.AnnotatedTypeTree;
import com.sun.source.tree.ArrayTypeTree;
import com.sun.source.tree.BlockTree;
import com.sun.source.tree.ClassTree;
import com.sun.source.tree.CompilationUnitTree;
import com.sun.source.tree.ImportTree;
import com.sun.source.tree.MemberSelectTree;
import com.sun.source.tree.MethodInvocationTree;
import com.sun.source.tree.MethodTree;
import com.sun.source.tree.ModifiersTree;
import com.sun.source.tree.NewClassTree;
import com.sun.source.tree.Tree;
import com.sun.source.tree.VariableTree;
import com.sun.source.util.JavacTask;
import com.sun.source.util.TreePathScanner;
import com.sun.source.util.Trees;
import java.lang.reflect.Constructor;
import java.lang.reflect.Field;
import java.lang.reflect.Method;
import java.lang.reflect.Modifier;
import java.nio.file.Files;
import java.nio.file.Path;
import java.util.ArrayList;
import java.util.EnumSet;
import java.util.List;
import java.util.Set;
import java.util.TreeSet;
import javax.tools.JavaCompiler;
import javax.tools.StandardJavaFileManager;
import javax.tools.ToolProvider;

/** The rules of LANGUAGE.md that a look at the source and at the compiled face can tell. */
public final class LanguageTest extends TreePathScanner<Void, Void> {
    private static final Path SOURCE = Path.of("src/main/java/IntoTheCorner.java");

    private static final Set<String> FACE = Set.of("feed(int,long)", "house()", "floor()", "room(int,int)",
        "door(int,int)", "need(int,int)", "set(int,int)", "planks(int)", "step(int,int)", "stepOf(int,int)", "clear()",
        "judged(int)", "done()", "where(int)", "soonest()", "fewest(int)", "cuts()", "way(int,int,int)", "free(int)",
        "out()", "square(int,int)", "image()", "on()", "count(int)");

    private static final Set<Tree.Kind> FORBIDDEN = EnumSet.of(Tree.Kind.THROW, Tree.Kind.TRY, Tree.Kind.CATCH,
        Tree.Kind.SYNCHRONIZED, Tree.Kind.ASSERT, Tree.Kind.LAMBDA_EXPRESSION, Tree.Kind.MEMBER_REFERENCE,
        Tree.Kind.ANNOTATION, Tree.Kind.UNION_TYPE, Tree.Kind.INTERSECTION_TYPE);

    private static final Set<String> LIBRARY = Set.of("Arrays.fill", "System.arraycopy", "Math.max", "Math.min",
        "Integer.bitCount");

    private static final int MOST_DEEP = 8;

    private final List<String> faults = new ArrayList<>();
    private CompilationUnitTree unit;
    private Trees trees;
    private int classes;

    public static void main(String[] args) throws Exception {
        LanguageTest test = new LanguageTest();
        test.lookAtFace();
        test.lookAtSource();
        test.faults.forEach(System.out::println);
        System.out.println(test.classes + " classes looked at, " + test.faults.size() + " faults");
        if (!test.faults.isEmpty() || test.classes == 0) {
            System.exit(1);
        }
    }

    private void lookAtFace() {
        Class<?> face = IntoTheCorner.class;
        check(Modifier.isFinal(face.getModifiers()) && Modifier.isPublic(face.getModifiers()), "rule 1: public final");
        Set<String> methods = new TreeSet<>();
        for (Method m : face.getDeclaredMethods()) {
            if (!m.isSynthetic() && !Modifier.isPrivate(m.getModifiers())) {
                methods.add(signature(m));
                check(Modifier.isPublic(m.getModifiers()) && m.getReturnType() == int.class, "rule 1: " + m);
            }
        }
        check(methods.equals(new TreeSet<>(FACE)), "rule 1: the face is " + methods);
        for (Field f : face.getDeclaredFields()) {
            check(Modifier.isPrivate(f.getModifiers()), "rule 1: field " + f);
        }
        Constructor<?>[] made = face.getDeclaredConstructors();
        check(made.length == 1 && made[0].getParameterCount() == 0 && Modifier.isPublic(made[0].getModifiers()),
            "rule 1: one public constructor");
    }

    private static String signature(Method m) {
        StringBuilder text = new StringBuilder(m.getName()).append('(');
        for (Class<?> type : m.getParameterTypes()) {
            text.append(text.charAt(text.length() - 1) == '(' ? "" : ",").append(type);
        }
        return text.append(')').toString();
    }

    private void lookAtSource() throws Exception {
        String text = Files.readString(SOURCE);
        check(text.chars().allMatch(c -> c == '\n' || c >= 32 && c < 127), "rule 4: signs 1 to 127 alone");
        JavaCompiler compiler = ToolProvider.getSystemJavaCompiler();
        try (StandardJavaFileManager files = compiler.getStandardFileManager(null, null, null)) {
            JavacTask task = (JavacTask) compiler.getTask(null, files, null, null, null, files.getJavaFileObjects(SOURCE));
            trees = Trees.instance(task);
            Iterable<? extends CompilationUnitTree> units = task.parse();
            for (CompilationUnitTree u : units) {
                unit = u;
                check(u.getPackageName() == null, "no package line");
                scan(u, null);
            }
            // Behind the other looks: it adds to the trees what the source leaves away.
            List<String> chain = new CallDepth(task, units).longestChain();
            check(!chain.isEmpty() && chain.size() <= MOST_DEEP, "rule 11: " + chain.size() + " deep: " + chain);
        }
        check(classes <= 12, "rule 11: " + classes + " classes");
    }

    private void check(boolean holds, String fault) {
        if (!holds) {
            faults.add(fault);
        }
    }

    private long line(Tree tree, boolean end) {
        long at = end ? trees.getSourcePositions().getEndPosition(unit, tree)
            : trees.getSourcePositions().getStartPosition(unit, tree);
        return unit.getLineMap().getLineNumber(at);
    }

    @Override
    public Void scan(Tree tree, Void nothing) {
        if (tree != null && FORBIDDEN.contains(tree.getKind())) {
            faults.add("rules 2 and 6: " + tree.getKind() + " in line " + line(tree, false));
        }
        return super.scan(tree, nothing);
    }

    @Override
    public Void visitImport(ImportTree tree, Void nothing) {
        String name = tree.getQualifiedIdentifier().toString();
        check(name.equals("java.util.Arrays"), "rule 4: import " + name);
        return super.visitImport(tree, nothing);
    }

    @Override
    public Void visitClass(ClassTree tree, Void nothing) {
        classes++;
        boolean outer = tree.getSimpleName().contentEquals("IntoTheCorner");
        Set<javax.lang.model.element.Modifier> flags = tree.getModifiers().getFlags();
        check(outer || flags.contains(javax.lang.model.element.Modifier.STATIC), "rule 2: " + tree.getSimpleName());
        int fields = 0;
        for (Tree member : tree.getMembers()) {
            if (member instanceof VariableTree field) {
                fields += isStatic(field.getModifiers()) ? 0 : 1;
                check(!isStatic(field.getModifiers())
                    || field.getModifiers().getFlags().contains(javax.lang.model.element.Modifier.FINAL),
                    "rule 5: " + field);
            }
            check(!(member instanceof BlockTree), "rule 5: an initialiser block in " + tree.getSimpleName());
        }
        check(fields <= 20, "rule 11: fields of " + tree.getSimpleName());
        return super.visitClass(tree, nothing);
    }

    private static boolean isStatic(ModifiersTree modifiers) {
        return modifiers.getFlags().contains(javax.lang.model.element.Modifier.STATIC);
    }

    @Override
    public Void visitMethod(MethodTree tree, Void nothing) {
        String name = tree.getName().toString();
        check(tree.getParameters().size() <= 7, "rule 11: parameters of " + name);
        check(line(tree, true) - line(tree, false) < 60, "rule 11: lines of " + name);
        check(tree.getThrows().isEmpty(), "rule 6: throws of " + name);
        boolean ofFace = FACE.stream().anyMatch(f -> f.startsWith(name + "("));
        boolean isPublic = tree.getModifiers().getFlags().contains(javax.lang.model.element.Modifier.PUBLIC);
        check(!ofFace || isPublic, "rule 1: " + name + " bears a public name");
        return super.visitMethod(tree, nothing);
    }

    @Override
    public Void visitNewClass(NewClassTree tree, Void nothing) {
        check(tree.getClassBody() == null, "rule 2: an anonymous class in line " + line(tree, false));
        return super.visitNewClass(tree, nothing);
    }

    @Override
    public Void visitArrayType(ArrayTypeTree tree, Void nothing) {
        check(!(tree.getType() instanceof AnnotatedTypeTree), "rule 3: line " + line(tree, false));
        return super.visitArrayType(tree, nothing);
    }

    @Override
    public Void visitMethodInvocation(MethodInvocationTree tree, Void nothing) {
        if (tree.getMethodSelect() instanceof MemberSelectTree select) {
            String of = select.getExpression().toString();
            boolean library = Set.of("Arrays", "System", "Math", "Integer", "Long", "String").contains(of);
            check(!library || LIBRARY.contains(of + "." + select.getIdentifier()), "rule 4: " + tree);
        }
        return super.visitMethodInvocation(tree, nothing);
    }
}
