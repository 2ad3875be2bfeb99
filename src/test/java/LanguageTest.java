import com.sun.source.tree.*;
import com.sun.source.util.*;
import java.lang.reflect.Constructor;
import java.lang.reflect.Field;
import java.lang.reflect.Method;
import java.lang.reflect.Modifier;
import java.nio.file.Files;
import java.nio.file.Path;
import java.util.*;
import java.util.regex.Matcher;
import java.util.regex.Pattern;
import javax.lang.model.element.Element;
import javax.lang.model.element.ExecutableElement;
import javax.tools.JavaCompiler;
import javax.tools.ToolProvider;

/** Whether DayRows.java keeps to LANGUAGE.md, and its face to the document's. Arguments: both files. */
public final class LanguageTest {
    private static final Set<Tree.Kind> BARRED = EnumSet.of(Tree.Kind.THROW, Tree.Kind.TRY, Tree.Kind.CATCH,
        Tree.Kind.SYNCHRONIZED, Tree.Kind.ASSERT, Tree.Kind.LAMBDA_EXPRESSION, Tree.Kind.MEMBER_REFERENCE,
        Tree.Kind.PACKAGE);
    private static final Set<String> IMPORTS =
        Set.of("java.util.ArrayList", "java.util.Arrays", "java.util.Iterator", "java.util.List");
    /** The library that rule 4 lists, as class and method; a class that has another method is not listed so. */
    private static final Pattern LIBRARY = Pattern.compile(
        "String\\.(length|charAt|isEmpty|equals|indexOf|substring|toCharArray|<init>)"
        + "|(Abstract)?StringBuilder\\.(<init>|append|charAt|setCharAt|setLength|deleteCharAt|reverse|length|toString)"
        + "|(ArrayList|AbstractList|List|Collection)\\.(<init>|add|get|set|remove|size|isEmpty|clear|of)"
        + "|(Integer|Long|Math)\\.(?!\\w*Exact)\\w+|System\\.arraycopy|Arrays\\.(copyOf|copyOfRange|fill)|(Array|Object)\\.clone"
        + "|(Object|Record|Enum)\\.<init>|(Iterator|Iterable|Comparable)\\.\\w+|Enum\\.ordinal");
    // Rule 11 says "some": so much more is not yet said against.
    private static final int MOST_LINES = 66;
    private static final int MOST_PARAMETERS = 7;
    private static final int MOST_DEEP = 8;
    private static final int MOST_CLASSES = 13;
    private static final int MOST_FIELDS = 22;
    private static int passed;
    private static int failed;

    private final List<String> wrong = new ArrayList<>();
    private final Set<String> publicNames = new TreeSet<>();
    private final Map<ExecutableElement, Set<ExecutableElement>> calls = new HashMap<>();
    private Trees trees;
    private CompilationUnitTree unit;
    private int classes;

    public static void main(String[] args) throws Exception {
        LanguageTest test = new LanguageTest();
        test.face(Files.readString(Path.of(args[1])));
        test.end("face");
        test.read(Path.of(args[0]));
        test.end("language");
        test.depth();
        test.end("depth of calls");
        System.out.println("LanguageTest: " + passed + " passed, " + failed + " failed");
        if (failed > 0) {
            System.exit(1);
        }
    }

    private void end(String what) {
        if (wrong.isEmpty()) {
            passed++;
        } else {
            failed++;
            wrong.forEach(line -> System.out.println(what + ": " + line));
        }
        wrong.clear();
    }

    private void face(String document) throws Exception {
        String code = document.substring(document.indexOf("```java"));
        code = code.substring(0, code.indexOf("```", 5));
        Set<String> due = new TreeSet<>();
        Matcher methods = Pattern.compile("public (\\w+) (\\w+)\\(([^)]*)\\);").matcher(code);
        while (methods.find()) {
            due.add(methods.group(1) + " " + methods.group(2) + "(" + methods.group(3).replaceAll(" \\w+(,|$)", "$1") + ")");
        }
        Set<String> got = new TreeSet<>();
        for (Method method : DayRows.class.getDeclaredMethods()) {
            if (!Modifier.isPrivate(method.getModifiers())) {
                List<String> types = Arrays.stream(method.getParameterTypes()).map(Class::getName).toList();
                got.add(method.getReturnType() + " " + method.getName() + "(" + String.join(", ", types) + ")");
                publicNames.add(method.getName());
            }
        }
        if (due.size() != 55 - 1 || !due.equals(got)) {
            wrong.add("due is " + due + ", there is " + got);
        }
        for (Field field : DayRows.class.getDeclaredFields()) {
            if (!Modifier.isPrivate(field.getModifiers()) && !field.getName().equals("NONE")) {
                wrong.add("field " + field);
            }
        }
        for (Constructor<?> constructor : DayRows.class.getDeclaredConstructors()) {
            if (!constructor.toString().equals("public DayRows()")) {
                wrong.add("constructor " + constructor);
            }
        }
        if (DayRows.class.getModifiers() != (Modifier.PUBLIC | Modifier.FINAL)) {
            wrong.add("the class is not public and final alone");
        }
    }

    private void read(Path file) throws Exception {
        JavaCompiler compiler = ToolProvider.getSystemJavaCompiler();
        var files = compiler.getStandardFileManager(null, null, null);
        JavacTask task = (JavacTask) compiler.getTask(null, files, null, List.of("-proc:none"), null,
            files.getJavaFileObjects(file));
        unit = task.parse().iterator().next();
        task.analyze();
        trees = Trees.instance(task);
        new Reading().scan(unit, null);
        if (classes > MOST_CLASSES) {
            wrong.add(classes + " classes");
        }
    }

    /** The most calls that stand open at once, where none comes back to itself. */
    private void depth() {
        for (ExecutableElement method : calls.keySet()) {
            int deep = deepest(method, new ArrayDeque<>());
            if (deep > MOST_DEEP) {
                wrong.add(method.getEnclosingElement() + "." + method + " goes " + deep + " deep");
            }
        }
    }

    private int deepest(ExecutableElement method, Deque<ExecutableElement> open) {
        if (open.contains(method)) {
            return 0;
        }
        open.push(method);
        int most = 0;
        for (ExecutableElement called : calls.getOrDefault(method, Set.of())) {
            most = Math.max(most, deepest(called, open));
        }
        open.pop();
        return most + 1;
    }

    private final class Reading extends TreePathScanner<Void, Void> {
        private ExecutableElement inside;

        @Override
        public Void scan(Tree tree, Void nothing) {
            if (tree != null && BARRED.contains(tree.getKind())) {
                say(tree, tree.getKind().toString());
            }
            return super.scan(tree, nothing);
        }

        private void say(Tree tree, String what) {
            long place = trees.getSourcePositions().getStartPosition(unit, tree);
            wrong.add("line " + unit.getLineMap().getLineNumber(place) + ": " + what);
        }

        private long lines(Tree tree) {
            var places = trees.getSourcePositions();
            LineMap map = unit.getLineMap();
            return map.getLineNumber(places.getEndPosition(unit, tree))
                - map.getLineNumber(places.getStartPosition(unit, tree)) + 1;
        }

        @Override
        public Void visitClass(ClassTree tree, Void nothing) {
            classes++;
            int fields = 0;
            for (Tree member : tree.getMembers()) {
                if (member instanceof VariableTree field) {
                    var flags = field.getModifiers().getFlags();
                    boolean constant = flags.contains(javax.lang.model.element.Modifier.STATIC);
                    if (constant && !flags.contains(javax.lang.model.element.Modifier.FINAL)) {
                        say(field, "static and not final");
                    }
                    fields += constant ? 0 : 1;
                } else if (member instanceof ClassTree inner) {
                    Element element = trees.getElement(new TreePath(getCurrentPath(), inner));
                    if (!element.getModifiers().contains(javax.lang.model.element.Modifier.STATIC)) {
                        say(inner, "a class that is not static");
                    }
                } else if (member instanceof BlockTree) {
                    say(member, "an initialiser block");
                }
            }
            if (fields > MOST_FIELDS) {
                say(tree, fields + " fields");
            }
            return super.visitClass(tree, nothing);
        }

        @Override
        public Void visitMethod(MethodTree tree, Void nothing) {
            ExecutableElement outer = inside;
            inside = (ExecutableElement) trees.getElement(getCurrentPath());
            calls.putIfAbsent(inside, new HashSet<>());
            if (lines(tree) > MOST_LINES) {
                say(tree, tree.getName() + " has " + lines(tree) + " lines");
            }
            if (tree.getParameters().size() > MOST_PARAMETERS) {
                say(tree, tree.getName() + " has " + tree.getParameters().size() + " parameters");
            }
            boolean isPrivate = inside.getModifiers().contains(javax.lang.model.element.Modifier.PRIVATE);
            if (isPrivate && publicNames.contains(tree.getName().toString())) {
                say(tree, tree.getName() + " bears the name of a public method");
            }
            super.visitMethod(tree, nothing);
            inside = outer;
            return null;
        }

        @Override
        public Void visitMethodInvocation(MethodInvocationTree tree, Void nothing) {
            called(trees.getElement(new TreePath(getCurrentPath(), tree.getMethodSelect())), tree);
            return super.visitMethodInvocation(tree, nothing);
        }

        @Override
        public Void visitNewClass(NewClassTree tree, Void nothing) {
            if (tree.getClassBody() != null) {
                say(tree, "an anonymous class");
            }
            called(trees.getElement(getCurrentPath()), tree);
            return super.visitNewClass(tree, nothing);
        }

        private void called(Element element, Tree tree) {
            if (!(element instanceof ExecutableElement method)) {
                return;
            }
            String owner = method.getEnclosingElement().toString();
            if (owner.startsWith("DayRows")) {
                if (inside != null) {
                    calls.get(inside).add(method);
                }
            } else if (!isListed(owner, method)) {
                say(tree, "calls " + owner + "." + method);
            }
        }

        private boolean isListed(String owner, ExecutableElement method) {
            String name = owner.replaceAll("<.*", "").replaceAll(".*\\.", "") + "." + method.getSimpleName();
            boolean ofNumbers = !method.getParameters().isEmpty() && method.getParameters().stream()
                .allMatch(p -> p.asType().toString().matches("int|long"));
            return LIBRARY.matcher(name).matches() && (ofNumbers || !name.matches("(Integer|Long|Math)\\..*"));
        }

        @Override
        public Void visitImport(ImportTree tree, Void nothing) {
            if (!IMPORTS.contains(tree.getQualifiedIdentifier().toString())) {
                say(tree, "imports " + tree.getQualifiedIdentifier());
            }
            return super.visitImport(tree, nothing);
        }

        @Override
        public Void visitLiteral(LiteralTree tree, Void nothing) {
            boolean isText = tree.getValue() instanceof String || tree.getValue() instanceof Character;
            if (isText && tree.getValue().toString().chars().anyMatch(sign -> sign < 1 || sign > 127)) {
                say(tree, "a sign that is not 1 to 127");
            }
            return super.visitLiteral(tree, nothing);
        }

        @Override
        public Void visitBinary(BinaryTree tree, Void nothing) {
            var type = trees.getTypeMirror(getCurrentPath());
            if (type != null && type.toString().equals("java.lang.String")) {
                say(tree, "texts joined by +");
            }
            boolean compares = tree.getKind() == Tree.Kind.EQUAL_TO || tree.getKind() == Tree.Kind.NOT_EQUAL_TO;
            if (compares && isBoxed(tree.getLeftOperand()) && isBoxed(tree.getRightOperand())) {
                say(tree, "texts or Integers compared by " + tree.getKind());
            }
            return super.visitBinary(tree, nothing);
        }

        private boolean isBoxed(ExpressionTree tree) {
            var type = trees.getTypeMirror(new TreePath(getCurrentPath(), tree));
            return type != null && type.toString().matches("java\\.lang\\.(String|Integer|Long)");
        }
    }
}
