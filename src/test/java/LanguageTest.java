import java.io.IOException;
import java.nio.file.Files;
import java.nio.file.Path;
import java.util.regex.Matcher;
import java.util.regex.Pattern;

/** Rules of LANGUAGE.md that can be told from the words of the file, and the public face. */
public final class LanguageTest {
    public static void main(String[] args) throws IOException {
        Path root = Path.of(args.length > 0 ? args[0] : ".");
        String source = Files.readString(root.resolve("src/main/java/VerandaWar.java"));
        String code = source.replaceAll("(?s)/\\*.*?\\*/", "").replaceAll("//[^\n]*", "");
        for (String word : new String[] {"throw", "throws", "try", "catch", "finally", "synchronized", "assert",
            "package", "protected", "System.out", "Random", "Thread", "HashMap", "hashCode", "toString", "var",
            "Object", "->", "::", "Exact"}) {
            Due.is("rules: " + word, find(code, word.matches("\\w+") ? "\\b" + word + "\\b" : Pattern.quote(word)), 0);
        }
        Due.is("rule 2: classes", find(code, "\\b(class|record|enum|interface) [A-Z]") <= 12, true);
        Due.is("rule 2: all are static", find(code, "\\bclass [A-Z]"), find(code, "static final class [A-Z]") + 1);
        Due.is("rule 5: static fields are final", find(code, "\\bstatic (int|long|boolean|char|String)(\\[\\])? \\w+ ?[=;]"), 0);
        Due.is("room: objects are made for fields alone", find(code, "\\bnew\\b"), find(code, "(?m)^ +(private )?(final )?[\\w\\[\\]]+ \\w+ = new "));
        methodLengths(code);
        face();
        Due.end();
    }

    private static int find(String code, String pattern) {
        Matcher matcher = Pattern.compile(pattern).matcher(code);
        int many = 0;
        while (matcher.find()) {
            many++;
        }
        return many;
    }

    private static void methodLengths(String code) {
        Matcher matcher = Pattern.compile("(?ms)^( +)[\\w\\[\\] ]+\\w\\([^)]*\\) \\{\n(.*?)^\\1\\}").matcher(code);
        int many = 0;
        while (matcher.find()) {
            many++;
            String head = matcher.group().substring(0, matcher.group().indexOf('\n'));
            Due.is("rule 11: lines of" + head, matcher.group(2).split("\n").length <= 60, true);
        }
        Due.is("rule 11: methods found", many > 80, true);
    }

    private static void face() {
        String want = "answered ants beat bridge capture chair chairIs check column count feed first floor glasses "
            + "hidden inCommon keep lamps lasts law loses march orders overTrees parrots ridge seed sees signals "
            + "toSee tried undo watches whenIn";
        java.util.TreeSet<String> names = new java.util.TreeSet<>();
        java.util.TreeSet<String> own = new java.util.TreeSet<>();
        for (java.lang.reflect.Method method : VerandaWar.class.getDeclaredMethods()) {
            boolean open = java.lang.reflect.Modifier.isPublic(method.getModifiers());
            (open ? names : own).add(method.getName());
            Due.is("rule 1: private " + method, open || java.lang.reflect.Modifier.isPrivate(method.getModifiers()), true);
        }
        Due.is("rule 1: the face", String.join(" ", names).equals(want), true);
        for (Class<?> inside : VerandaWar.class.getDeclaredClasses()) {
            for (java.lang.reflect.Method method : inside.getDeclaredMethods()) {
                own.add(method.getName());
            }
        }
        for (String name : names) {
            Due.is("rule 1: no other method is named " + name, own.contains(name), false);
        }
        Due.is("rule 1: final", java.lang.reflect.Modifier.isFinal(VerandaWar.class.getModifiers()), true);
        for (java.lang.reflect.Field field : VerandaWar.class.getDeclaredFields()) {
            boolean open = field.getName().equals("NONE");
            Due.is("rule 1: field " + field, open || java.lang.reflect.Modifier.isPrivate(field.getModifiers()), true);
        }
    }
}
