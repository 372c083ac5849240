import com.sun.source.tree.CompilationUnitTree;
import com.sun.source.tree.MethodInvocationTree;
import com.sun.source.tree.MethodTree;
import com.sun.source.tree.NewClassTree;
import com.sun.source.util.JavacTask;
import com.sun.source.util.TreePathScanner;
import com.sun.source.util.Trees;
import java.io.IOException;
import java.lang.reflect.Constructor;
import java.lang.reflect.Field;
import java.lang.reflect.Method;
import java.lang.reflect.Modifier;
import java.nio.file.Files;
import java.nio.file.Path;
import java.util.ArrayList;
import java.util.Arrays;
import java.util.LinkedHashMap;
import java.util.LinkedHashSet;
import java.util.List;
import java.util.Map;
import java.util.Set;
import java.util.TreeSet;
import java.util.regex.Matcher;
import java.util.regex.Pattern;
import javax.lang.model.element.Element;
import javax.tools.JavaCompiler;
import javax.tools.StandardJavaFileManager;
import javax.tools.ToolProvider;

/** The face as the document writes it, and those rules of LANGUAGE.md that can be looked up. */
public final class LanguageTest {
    private static final String[] FACE = {
        "int feed 5", "int text 1 A", "int fault 0", "int add 8 A S", "int drop 1 N", "int undo 0", "int why 1",
        "int told 1 A", "int element 2 N A", "int find 8", "int product 2 N", "int power 2 N", "int of 2 N A",
        "int couples 3 N", "int axes 1 A", "int degree 1 N", "int value 2 N", "int often 3 N", "int opposite 1 N",
        "int ways 2 N", "int far 2 N", "int withWays 1 A", "int invariants 1 A", "int inRow 2 N A", "int row 2 N",
        "int made 3 N A", "boolean isMade 3 N", "boolean isKept 2 N", "int ofOrder 2 A", "int makers 1 A",
        "long print 0", "int status 1",
    };
    private static final String[] BANNED = {"->", "::", "\\bfinally\\b", "\\bsynchronized\\b", "\\bassert\\b", "Exact\\(",
        "getMessage", "System\\.(?!arraycopy)", "Math\\.(?!max\\(|min\\(|abs\\(|floorMod\\(|floorDiv\\()", "\\bRandom\\b",
        "\\bThread\\b", "\\bpackage\\b", "\\bnew Object\\b", "hashCode", "\\bwhile \\(true\\)", "for \\(;;\\)",
        "\\bthrow (?!new (IllegalState|IllegalArgument|NoSuchElement|IndexOutOfBounds|UnsupportedOperation|Arithmetic|Runtime)"
            + "Exception\\()",
        "\\bcatch \\((?!(IllegalState|IllegalArgument|NoSuchElement|UnsupportedOperation)Exception )"};
    /** Rule 11: as deep as calls that are no recursion may go. */
    private static final int MOST_DEEP = 8;

    public static void main(String[] args) throws IOException {
        String source = Files.readString(Path.of("src/main/java/DoubleTurns.java"));
        face();
        members();
        words(source);
        methods(source);
        depths(Path.of("src/main/java/DoubleTurns.java"));
        Check.end("LanguageTest");
    }

    private static void holds(String rule, boolean holds) {
        Check.due(rule, holds, true);
    }

    private static void face() {
        Class<?> type = DoubleTurns.class;
        holds("rule 1: public and final", type.getModifiers() == (Modifier.PUBLIC | Modifier.FINAL));
        Set<String> open = new TreeSet<>();
        Set<String> closed = new TreeSet<>();
        for (Method m : type.getDeclaredMethods()) {
            if (Modifier.isPrivate(m.getModifiers())) {
                closed.add(m.getName());
            } else {
                holds("rule 1: public " + m, m.getModifiers() == Modifier.PUBLIC);
                open.add(signature(m));
            }
        }
        Check.due("rule 1: face " + open, open.equals(new TreeSet<>(Arrays.asList(FACE))), true);
        for (Method m : type.getDeclaredMethods()) {
            boolean isOpen = Modifier.isPublic(m.getModifiers());
            holds("rule 1: one name " + m, !isOpen || !closed.contains(m.getName()));
        }
        for (Constructor<?> c : type.getDeclaredConstructors()) {
            holds("rule 1: constructor", c.getModifiers() == Modifier.PUBLIC && c.getParameterCount() == 0);
        }
    }

    private static String signature(Method m) {
        StringBuilder text = new StringBuilder(m.getReturnType().getName() + " " + m.getName() + " " + m.getParameterCount());
        for (Class<?> parameter : m.getParameterTypes()) {
            holds("whole numbers alone " + m, parameter == int.class);
        }
        List<String> thrown = new ArrayList<>();
        for (Class<?> e : m.getExceptionTypes()) {
            thrown.add(e.getSimpleName().substring(0, 1).equals("N") ? "N" : e.getSimpleName().substring(7, 8));
        }
        for (String e : thrown) {
            text.append(' ').append(e);
        }
        return text.toString();
    }

    private static void members() {
        List<Class<?>> all = new ArrayList<>(List.of(DoubleTurns.class));
        all.addAll(List.of(DoubleTurns.class.getDeclaredClasses()));
        holds("rule 11: classes", all.size() <= 12);
        for (Class<?> type : all) {
            int fields = 0;
            for (Field f : type.getDeclaredFields()) {
                boolean isStatic = Modifier.isStatic(f.getModifiers());
                fields += isStatic ? 0 : 1;
                holds("rule 5: " + f, !isStatic || Modifier.isFinal(f.getModifiers()));
                boolean isNone = f.getName().equals("NONE") && Modifier.isPublic(f.getModifiers());
                holds("rule 1: " + f, type != DoubleTurns.class || isNone || Modifier.isPrivate(f.getModifiers()));
            }
            holds("rule 11: fields of " + type, fields <= 20);
            if (type != DoubleTurns.class) {
                holds("rule 1: " + type, (type.getModifiers() & (Modifier.PUBLIC | Modifier.PROTECTED)) == 0);
                holds("rule 2: " + type, Modifier.isStatic(type.getModifiers()));
                for (Method m : type.getDeclaredMethods()) {
                    holds("rule 11: " + m, m.getParameterCount() <= 7);
                }
            }
        }
    }

    private static void words(String source) {
        holds("rule 4: signs 1 to 127", source.chars().allMatch(c -> c >= 1 && c <= 127));
        String bare = source.replaceAll("(?s)/\\*.*?\\*/", "").replaceAll("//[^\n]*", "").replaceAll("\"[^\"\n]*\"", "\"\"");
        for (String banned : BANNED) {
            Matcher found = Pattern.compile(banned).matcher(bare);
            Check.due("not in the language: " + banned, found.find(), false);
        }
        Matcher imports = Pattern.compile("import ([^;]*);").matcher(bare);
        while (imports.find()) {
            holds("rule 4: " + imports.group(1), imports.group(1).equals("java.util.NoSuchElementException"));
        }
    }

    private static void methods(String source) {
        String[] lines = source.split("\n");
        for (int i = 0; i < lines.length; i++) {
            Matcher head = Pattern.compile("( {4}| {8})(?! )(?!.*\\bclass\\b).*\\{").matcher(lines[i]);
            if (head.matches()) {
                int end = i;
                while (!lines[end].equals(head.group(1) + "}") && !lines[end].endsWith("};")) {
                    end++;
                }
                holds("rule 11: a short method at line " + (i + 1), end - i <= 60);
            }
        }
    }

    private static void depths(Path source) throws IOException {
        JavaCompiler compiler = ToolProvider.getSystemJavaCompiler();
        StandardJavaFileManager files = compiler.getStandardFileManager(null, null, null);
        JavacTask task = (JavacTask) compiler.getTask(null, files, null, List.of("-proc:none"), null,
                files.getJavaFileObjects(source));
        Calls calls = new Calls(Trees.instance(task));
        Iterable<? extends CompilationUnitTree> units = task.parse();
        task.analyze();
        calls.scan(units, null);
        for (Element method : calls.made.keySet()) {
            int depth = calls.depth(method, 0);
            Check.due("rule 11: " + method + " goes " + depth + " deep", depth <= MOST_DEEP, true);
        }
        holds("calls are found", calls.made.size() > 100);
    }

    /** Which methods and constructors of the program each of them calls. */
    private static final class Calls extends TreePathScanner<Void, Element> {
        final Map<Element, Set<Element>> made = new LinkedHashMap<>();
        private final Trees trees;

        Calls(Trees trees) {
            this.trees = trees;
        }

        @Override
        public Void visitMethod(MethodTree method, Element around) {
            Element self = trees.getElement(getCurrentPath());
            made.put(self, new LinkedHashSet<>());
            return super.visitMethod(method, self);
        }

        @Override
        public Void visitMethodInvocation(MethodInvocationTree call, Element caller) {
            take(caller);
            return super.visitMethodInvocation(call, caller);
        }

        @Override
        public Void visitNewClass(NewClassTree call, Element caller) {
            take(caller);
            return super.visitNewClass(call, caller);
        }

        private void take(Element caller) {
            if (made.containsKey(caller)) {
                made.get(caller).add(trees.getElement(getCurrentPath()));
            }
        }

        /** How many calls stand open at once at most; far too many for one that comes back to itself. */
        int depth(Element method, int above) {
            int deepest = 0;
            for (Element called : made.getOrDefault(method, Set.of())) {
                if (made.containsKey(called) && above <= MOST_DEEP) {
                    deepest = Math.max(deepest, depth(called, above + 1));
                }
            }
            return deepest + 1;
        }
    }
}
