import com.sun.source.tree.*;
import com.sun.source.util.*;
import java.lang.reflect.Constructor;
import java.lang.reflect.Field;
import java.lang.reflect.Method;
import java.lang.reflect.Modifier;
import java.nio.file.Files;
import java.nio.file.Path;
import java.util.*;
import java.util.regex.Matcher;
import java.util.regex.Pattern;
import javax.lang.model.element.Element;
import javax.lang.model.element.ElementKind;
import javax.lang.model.element.ExecutableElement;
import javax.tools.JavaCompiler;
import javax.tools.ToolProvider;

/** Whether DayRows.java keeps to LANGUAGE.md, and its face to the document's. Arguments: both files. */
public final class LanguageTest {
    private static final Set<Tree.Kind> BARRED = EnumSet.of(Tree.Kind.THROW, Tree.Kind.TRY, Tree.Kind.CATCH,
        Tree.Kind.SYNCHRONIZED, Tree.Kind.ASSERT, Tree.Kind.LAMBDA_EXPRESSION, Tree.Kind.MEMBER_REFERENCE,
        Tree.Kind.IMPORT, Tree.Kind.PACKAGE, Tree.Kind.TYPE_CAST, Tree.Kind.INSTANCE_OF, Tree.Kind.ANNOTATION);
    private static final Set<String> LIBRARY = Set.of("String.length", "String.charAt", "System.arraycopy",
        "Math.min", "Math.max", "Integer.bitCount", "Object.<init>");
    private static int passed;
    private static int failed;

    private final List<String> wrong = new ArrayList<>();
    private final Set<String> publicNames = new TreeSet<>();
    private final Map<ExecutableElement, Set<ExecutableElement>> calls = new HashMap<>();
    private Trees trees;
    private CompilationUnitTree unit;
    private int classes;

    public static void main(String[] args) throws Exception {
        LanguageTest test = new LanguageTest();
        test.face(Files.readString(Path.of(args[1])));
        test.end("face");
        test.read(Path.of(args[0]));
        test.end("language");
        test.depth();
        test.end("depth of calls");
        System.out.println("LanguageTest: " + passed + " passed, " + failed + " failed");
        if (failed > 0) {
            System.exit(1);
        }
    }

    private void end(String what) {
        if (wrong.isEmpty()) {
            passed++;
        } else {
            failed++;
            wrong.forEach(line -> System.out.println(what + ": " + line));
        }
        wrong.clear();
    }

    private void face(String document) throws Exception {
        String code = document.substring(document.indexOf("```java"));
        code = code.substring(0, code.indexOf("```", 5));
        Set<String> due = new TreeSet<>();
        Matcher methods = Pattern.compile("public (\\w+) (\\w+)\\(([^)]*)\\);").matcher(code);
        while (methods.find()) {
            due.add(methods.group(1) + " " + methods.group(2) + "(" + methods.group(3).replaceAll(" \\w+(,|$)", "$1") + ")");
        }
        Set<String> got = new TreeSet<>();
        for (Method method : DayRows.class.getDeclaredMethods()) {
            if (!Modifier.isPrivate(method.getModifiers())) {
                List<String> types = Arrays.stream(method.getParameterTypes()).map(Class::getName).toList();
                got.add(method.getReturnType() + " " + method.getName() + "(" + String.join(", ", types) + ")");
                publicNames.add(method.getName());
            }
        }
        if (due.size() != 55 - 1 || !due.equals(got)) {
            wrong.add("due is " + due + ", there is " + got);
        }
        for (Field field : DayRows.class.getDeclaredFields()) {
            if (!Modifier.isPrivate(field.getModifiers()) && !field.getName().equals("NONE")) {
                wrong.add("field " + field);
            }
        }
        for (Constructor<?> constructor : DayRows.class.getDeclaredConstructors()) {
            if (!constructor.toString().equals("public DayRows()")) {
                wrong.add("constructor " + constructor);
            }
        }
        if (DayRows.class.getModifiers() != (Modifier.PUBLIC | Modifier.FINAL)) {
            wrong.add("the class is not public and final alone");
        }
    }

    private void read(Path file) throws Exception {
        for (char sign : Files.readString(file).toCharArray()) {
            if (sign > 126 || sign < 32 && sign != '\n') {
                wrong.add("sign " + (int) sign);
            }
        }
        JavaCompiler compiler = ToolProvider.getSystemJavaCompiler();
        var files = compiler.getStandardFileManager(null, null, null);
        JavacTask task = (JavacTask) compiler.getTask(null, files, null, List.of("-proc:none"), null,
            files.getJavaFileObjects(file));
        unit = task.parse().iterator().next();
        task.analyze();
        trees = Trees.instance(task);
        new Reading().scan(unit, null);
        if (classes > 12) {
            wrong.add(classes + " classes");
        }
    }

    /** The most calls that stand open at once; a chain that comes back to itself is told as wrong. */
    private void depth() {
        for (ExecutableElement method : calls.keySet()) {
            int deep = deepest(method, new ArrayDeque<>());
            if (deep > 8) {
                wrong.add(method.getEnclosingElement() + "." + method + " goes " + deep + " deep");
            }
        }
    }

    private int deepest(ExecutableElement method, Deque<ExecutableElement> open) {
        if (open.contains(method)) {
            wrong.add("recursion of " + method);
            return 0;
        }
        open.push(method);
        int most = 0;
        for (ExecutableElement called : calls.getOrDefault(method, Set.of())) {
            most = Math.max(most, deepest(called, open));
        }
        open.pop();
        return most + 1;
    }

    private final class Reading extends TreePathScanner<Void, Void> {
        private ExecutableElement inside;

        @Override
        public Void scan(Tree tree, Void nothing) {
            if (tree != null && BARRED.contains(tree.getKind()) && !isNumberCast(tree)) {
                say(tree, tree.getKind().toString());
            }
            return super.scan(tree, nothing);
        }

        private boolean isNumberCast(Tree tree) {
            return tree instanceof TypeCastTree cast && cast.getType() instanceof PrimitiveTypeTree;
        }

        private void say(Tree tree, String what) {
            long place = trees.getSourcePositions().getStartPosition(unit, tree);
            wrong.add("line " + unit.getLineMap().getLineNumber(place) + ": " + what);
        }

        private long lines(Tree tree) {
            var places = trees.getSourcePositions();
            LineMap map = unit.getLineMap();
            return map.getLineNumber(places.getEndPosition(unit, tree))
                - map.getLineNumber(places.getStartPosition(unit, tree)) + 1;
        }

        @Override
        public Void visitClass(ClassTree tree, Void nothing) {
            classes++;
            int fields = 0;
            for (Tree member : tree.getMembers()) {
                if (member instanceof VariableTree field) {
                    var flags = field.getModifiers().getFlags();
                    boolean constant = flags.contains(javax.lang.model.element.Modifier.STATIC);
                    if (constant && !flags.contains(javax.lang.model.element.Modifier.FINAL)) {
                        say(field, "static and not final");
                    }
                    fields += constant ? 0 : 1;
                } else if (member instanceof ClassTree inner) {
                    if (!inner.getModifiers().getFlags().contains(javax.lang.model.element.Modifier.STATIC)) {
                        say(inner, "a class that is not static");
                    }
                } else if (member instanceof BlockTree) {
                    say(member, "an initialiser block");
                }
            }
            if (fields > 20) {
                say(tree, fields + " fields");
            }
            return super.visitClass(tree, nothing);
        }

        @Override
        public Void visitMethod(MethodTree tree, Void nothing) {
            ExecutableElement outer = inside;
            inside = (ExecutableElement) trees.getElement(getCurrentPath());
            calls.putIfAbsent(inside, new HashSet<>());
            if (lines(tree) > 60) {
                say(tree, tree.getName() + " has " + lines(tree) + " lines");
            }
            if (tree.getParameters().size() > 7) {
                say(tree, tree.getName() + " has " + tree.getParameters().size() + " parameters");
            }
            boolean ofFace = inside.getEnclosingElement().getSimpleName().contentEquals("DayRows")
                && inside.getModifiers().contains(javax.lang.model.element.Modifier.PUBLIC);
            if (!ofFace && publicNames.contains(tree.getName().toString())) {
                say(tree, tree.getName() + " bears the name of a public method");
            }
            super.visitMethod(tree, nothing);
            inside = outer;
            return null;
        }

        @Override
        public Void visitMethodInvocation(MethodInvocationTree tree, Void nothing) {
            called(trees.getElement(new TreePath(getCurrentPath(), tree.getMethodSelect())), tree);
            return super.visitMethodInvocation(tree, nothing);
        }

        @Override
        public Void visitNewClass(NewClassTree tree, Void nothing) {
            if (tree.getClassBody() != null) {
                say(tree, "an anonymous class");
            }
            called(trees.getElement(getCurrentPath()), tree);
            return super.visitNewClass(tree, nothing);
        }

        private void called(Element element, Tree tree) {
            if (!(element instanceof ExecutableElement method)) {
                return;
            }
            String owner = method.getEnclosingElement().toString();
            if (owner.startsWith("DayRows")) {
                if (inside != null) {
                    calls.get(inside).add(method);
                }
            } else if (!LIBRARY.contains(owner.replaceAll(".*\\.", "") + "." + method.getSimpleName())) {
                say(tree, "calls " + owner + "." + method);
            }
            if (method.getKind() == ElementKind.CONSTRUCTOR && inside != null
                && inside.getKind() != ElementKind.CONSTRUCTOR && tree instanceof NewClassTree) {
                say(tree, "makes an object outside a constructor");
            }
        }

        @Override
        public Void visitNewArray(NewArrayTree tree, Void nothing) {
            if (inside != null && inside.getKind() != ElementKind.CONSTRUCTOR) {
                say(tree, "makes an array outside a constructor");
            }
            return super.visitNewArray(tree, nothing);
        }

        @Override
        public Void visitBinary(BinaryTree tree, Void nothing) {
            var type = trees.getTypeMirror(getCurrentPath());
            if (type != null && type.toString().equals("java.lang.String")) {
                say(tree, "texts joined by +");
            }
            return super.visitBinary(tree, nothing);
        }
    }
}
