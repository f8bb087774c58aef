import com.sun.source.tree.CompilationUnitTree;
import com.sun.source.util.JavacTask;
import com.sun.source.util.Trees;
import java.io.IOException;
import java.lang.reflect.Field;
import java.lang.reflect.Method;
import java.lang.reflect.Modifier;
import java.nio.file.Files;
import java.nio.file.Path;
import java.util.ArrayList;
import java.util.Arrays;
import java.util.IdentityHashMap;
import java.util.List;
import java.util.Map;
import java.util.TreeSet;
import java.util.regex.Matcher;
import java.util.regex.Pattern;
import javax.tools.JavaCompiler;
import javax.tools.StandardJavaFileManager;
import javax.tools.ToolProvider;

/** The public face as the document prints it, and the rules of LANGUAGE.md, as far as the compiler can tell them. */
public final class LanguageTest {
    private static final String SOURCE = "src/main/java/VerandaWar.java";

    public static void main(String[] args) throws IOException {
        Path root = Path.of(args.length > 0 ? args[0] : ".");
        face(root.resolve("../shared/DOC.md"));
        noOtherMembers();
        rules(root.resolve(SOURCE));
        badFilesAreRefused();
        room();
        Due.end();
    }

    private static void face(Path document) throws IOException {
        TreeSet<String> own = new TreeSet<>();
        for (Method method : VerandaWar.class.getDeclaredMethods()) {
            if (Modifier.isPublic(method.getModifiers())) {
                own.add(shape(method.getReturnType().getName(), method.getName(), method.getParameterCount()));
                boolean ints = Arrays.stream(method.getParameterTypes()).allMatch(type -> type == int.class);
                Due.is("all that " + method.getName() + " takes is int", ints, true);
                Due.is(method.getName() + " is no static one", Modifier.isStatic(method.getModifiers()), false);
            }
        }
        Due.is("methods", own.size(), 34);
        Due.is("constructors", VerandaWar.class.getConstructors().length, 1);
        Due.is("constructors in all", VerandaWar.class.getDeclaredConstructors().length, 1);
        Due.is("what the constructor takes", VerandaWar.class.getConstructors()[0].getParameterCount(), 0);
        Due.is("NONE", VerandaWar.NONE, -1);
        if (Files.exists(document)) {
            Due.is("the face is the document's: " + own, own.equals(printed(Files.readString(document))), true);
        }
    }

    private static TreeSet<String> printed(String document) {
        TreeSet<String> printed = new TreeSet<>();
        Matcher matcher = Pattern.compile("public (int|boolean) (\\w+)\\(([^)]*)\\);").matcher(document);
        while (matcher.find()) {
            int many = matcher.group(3).isEmpty() ? 0 : matcher.group(3).split(",").length;
            printed.add(shape(matcher.group(1), matcher.group(2), many));
        }
        return printed;
    }

    private static String shape(String answers, String name, int many) {
        return answers + " " + name + "/" + many;
    }

    private static void noOtherMembers() {
        TreeSet<String> face = new TreeSet<>();
        TreeSet<String> others = new TreeSet<>();
        for (Method method : VerandaWar.class.getDeclaredMethods()) {
            boolean open = Modifier.isPublic(method.getModifiers());
            (open ? face : others).add(method.getName());
            Due.is("rule 1: private " + method, open || Modifier.isPrivate(method.getModifiers()), true);
        }
        for (Class<?> inside : VerandaWar.class.getDeclaredClasses()) {
            int modifiers = inside.getModifiers();
            Due.is("rule 1: " + inside, Modifier.isPublic(modifiers) || Modifier.isProtected(modifiers), false);
            Due.is("rule 1: static " + inside, Modifier.isStatic(modifiers), true);
            for (Method method : inside.getDeclaredMethods()) {
                others.add(method.getName());
            }
        }
        for (String name : face) {
            Due.is("rule 1: no other method is named " + name, others.contains(name), false);
        }
        Due.is("rule 1: final", Modifier.isFinal(VerandaWar.class.getModifiers()), true);
        for (Field field : VerandaWar.class.getDeclaredFields()) {
            boolean none = field.getName().equals("NONE");
            Due.is("rule 1: field " + field, none || Modifier.isPrivate(field.getModifiers()), true);
        }
    }

    private static void rules(Path file) throws IOException {
        Rules rules = look(file);
        for (String broken : rules.broken()) {
            Due.is(broken + ", faults", 1, 0);
        }
        Due.is("the class was read", rules.methods() > 80, true);
    }

    private static Rules look(Path file) throws IOException {
        JavaCompiler compiler = ToolProvider.getSystemJavaCompiler();
        try (StandardJavaFileManager files = compiler.getStandardFileManager(null, null, null)) {
            JavacTask task = (JavacTask) compiler.getTask(null, files, null, List.of("-proc:none"), null,
                files.getJavaFileObjects(file));
            List<CompilationUnitTree> units = new ArrayList<>();
            task.parse().forEach(units::add);
            task.analyze();
            Rules rules = new Rules(Trees.instance(task), units.get(0));
            rules.scan(units.get(0), null);
            rules.judgeCalls();
            return rules;
        }
    }

    /** No call makes an object (rule 12 above), so what a new one is made of is all the room that a run takes. */
    private static void room() {
        Map<Object, Boolean> found = new IdentityHashMap<>();
        List<Object> next = new ArrayList<>(List.of(new VerandaWar()));
        int elements = 0;
        while (!next.isEmpty()) {
            Object one = next.remove(next.size() - 1);
            if (found.put(one, true) == null) {
                elements += one instanceof int[] row ? row.length : parts(one, next);
            }
        }
        Due.is("room: " + found.size() + " objects", found.size() > 20 && found.size() < 100, true);
        Due.is("room: " + elements + " elements", elements > 4000 && elements < 10000, true);
    }

    private static int parts(Object one, List<Object> next) {
        int many = 0;
        for (Field field : one.getClass().getDeclaredFields()) {
            if (!Modifier.isStatic(field.getModifiers())) {
                many++;
                if (!field.getType().isPrimitive()) {
                    next.add(valueOf(field, one));
                }
            }
        }
        return many;
    }

    private static Object valueOf(Field field, Object one) {
        try {
            field.setAccessible(true);
            return field.get(one);
        } catch (IllegalAccessException closed) {
            throw new IllegalStateException(closed);
        }
    }

    /** A rule that no file could break would tell nothing: each that Rules judges is broken here, in each way. */
    private static void badFilesAreRefused() throws IOException {
        isBroken("", "private final int[] row = new int[3]; private int f(int a) { return Math.max(a, row.length); }");
        isBroken("2", "private final Runnable r = () -> { };", "private final Runnable r = Thread::yield;",
            "class Inner { }", "private void f() { class Local { } }", "private final Bad b = new Bad() { };",
            "private enum Kind { ONE }");
        isBroken("3", "private Object o = null;", "private int[][][] deep = null;", "private String[][] two = null;",
            "private Object f() { return null; }", "private void f(Integer i) { }");
        isBroken("4", "private int f(int a) { return Math.addExact(a, 1); }",
            "private int f(String s) { return s.hashCode(); }", "private long f() { return System.nanoTime(); }",
            "private int f(String s) { return s.indexOf(3); }", "private String s = \"\u00e9\";");
        isBroken("5", "private static int many = 0;", "static { }", "private static final int[] ROW = new int[3];",
            "private static final StringBuilder TEXT = null;");
        isBroken("6", "private void f() { throw new RuntimeException(); }",
            "private void f() { try { g(); } finally { g(); } } private void g() { }",
            "private void f() { synchronized (this) { } }", "private void f() { assert true; }",
            "private boolean f(String a, String b) { return a == b; }", "private Bad f(Bad b) { return (Bad) b; }");
        isBroken("8", "int f(int a) { return f(a - 1); }",
            "private int f() { return g(); } private int g() { return f(); }");
        isBroken("9", "private void f() { for (;;) { } }", "private void f() { for (int i = 0; i < 3;) { } }",
            "private void f() { while (true) { } }", "private void f() { do { } while (true); }");
        isBroken("10", "private String f(String a) { return a + 1; }", "private String f(String a) { return 1 + a; }");
        isBroken("11", "private void f(int a, int b, int c, int d, int e, int g, int h, int i) { }",
            "private void f() { " + "\n;".repeat(60) + " }", many(21, "private int f#;"),
            many(12, "private static class C# { }"), many(8, "private void f#() { f##(); }") + "private void f9() { }");
        isBroken("12", "private void f() { int[] a = new int[3]; }", "private Bad f() { return new Bad(); }");
        isBroken("", "private void f(int a, int b, int c, int d, int e, int g, int h) { } private void f() { "
            + "\n;".repeat(58) + " }" + many(20, "private int f#;") + many(11, "private static class C# { }")
            + many(7, "private void f#() { f##(); }") + "private void f8() { }");
    }

    /** A text so often, # being its number, ## the one behind it. */
    private static String many(int often, String text) {
        StringBuilder all = new StringBuilder();
        for (int i = 1; i <= often; i++) {
            all.append(text.replace("##", "" + (i + 1)).replace("#", "" + i)).append(' ');
        }
        return all.toString();
    }

    private static void isBroken(String rule, String... members) throws IOException {
        for (String member : members) {
            List<String> broken = broken(member);
            boolean told = rule.isEmpty() ? broken.isEmpty()
                : broken.stream().anyMatch(one -> one.startsWith("rule " + rule + ":"));
            Due.is("rule " + rule + " by " + member + ": " + broken, told, true);
        }
    }

    private static List<String> broken(String members) throws IOException {
        Path folder = Files.createTempDirectory("rules");
        Path file = folder.resolve("Bad.java");
        try {
            Files.writeString(file, "public class Bad { " + members + " }");
            return look(file).broken();
        } finally {
            Files.delete(file);
            Files.delete(folder);
        }
    }
}
