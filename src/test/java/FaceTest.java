import java.lang.reflect.Constructor;
import java.lang.reflect.Field;
import java.lang.reflect.Method;
import java.lang.reflect.Modifier;
import java.nio.file.Files;
import java.nio.file.Path;
import java.util.ArrayList;
import java.util.Arrays;
import java.util.List;
import java.util.regex.Matcher;
import java.util.regex.Pattern;

/** The public face is the document's and nothing more; the source keeps to LANGUAGE.md where a text can tell. */
public final class FaceTest {
    private static final String INDEX = "IndexOutOfBoundsException";
    private static final String ARGUMENT = "IllegalArgumentException";
    private static final String STATE = "IllegalStateException";

    private static final List<String> FACE = List.of(
            "int leaf(1) " + ARGUMENT + " " + STATE,
            "int node(1) " + ARGUMENT + " " + STATE,
            "boolean more(2) " + INDEX + " " + ARGUMENT,
            "int hole(2) " + ARGUMENT + " " + STATE,
            "boolean test(3) " + INDEX + " " + ARGUMENT,
            "int match(3) " + INDEX + " " + ARGUMENT,
            "int tried(0)",
            "int bound(3) " + INDEX + " " + ARGUMENT,
            "int many(2) " + INDEX + " " + ARGUMENT,
            "int rule(1) " + INDEX + " " + STATE,
            "int net(1) " + INDEX + " " + ARGUMENT,
            "int rules(1)",
            "int first(1) " + INDEX + " " + ARGUMENT,
            "int order(2) " + INDEX + " " + ARGUMENT,
            "int parts(1) " + INDEX,
            "int part(2) " + INDEX,
            "int count(1)");

    public static void main(String[] args) throws Exception {
        Check check = new Check("FaceTest");
        faceIsTheDocuments(check);
        nothingElseIsVisible(check);
        sourceKeepsToTheLanguage(check);
        check.end();
    }

    private static void faceIsTheDocuments(Check check) {
        List<String> got = new ArrayList<>();
        for (Method m : SequenceMatch.class.getDeclaredMethods()) {
            if (Modifier.isPublic(m.getModifiers())) {
                got.add(told(m));
            }
        }
        List<String> due = new ArrayList<>(FACE);
        due.sort(null);
        got.sort(null);
        check.same("the public methods", due, got);
        int modifiers = SequenceMatch.class.getModifiers();
        check.same("public and final", true, Modifier.isPublic(modifiers) && Modifier.isFinal(modifiers));
        Constructor<?>[] makers = SequenceMatch.class.getDeclaredConstructors();
        check.same("one constructor", 1, makers.length);
        check.same("it is public", true, Modifier.isPublic(makers[0].getModifiers()));
        check.same("without parameters", 0, makers[0].getParameterCount());
    }

    private static String told(Method m) {
        StringBuilder text = new StringBuilder();
        text.append(m.getReturnType()).append(' ').append(m.getName());
        text.append('(').append(m.getParameterCount()).append(')');
        for (Class<?> e : m.getExceptionTypes()) {
            text.append(' ').append(e.getSimpleName());
        }
        return text.toString();
    }

    private static void nothingElseIsVisible(Check check) {
        List<String> faceNames = new ArrayList<>();
        for (Method m : SequenceMatch.class.getDeclaredMethods()) {
            if (Modifier.isPublic(m.getModifiers())) {
                faceNames.add(m.getName());
            }
        }
        for (Method m : SequenceMatch.class.getDeclaredMethods()) {
            if (!Modifier.isPublic(m.getModifiers())) {
                check.same(m + " is private", true, Modifier.isPrivate(m.getModifiers()));
                check.same(m + " has a name of its own", false, faceNames.contains(m.getName()));
            }
        }
        for (Field f : SequenceMatch.class.getDeclaredFields()) {
            check.same(f + " is private", true, Modifier.isPrivate(f.getModifiers()));
        }
        Class<?>[] inside = SequenceMatch.class.getDeclaredClasses();
        check.same("at most twelve classes", true, inside.length < 12);
        for (Class<?> c : inside) {
            check.same(c + " is static", true, Modifier.isStatic(c.getModifiers()));
            check.same(c + " is not public", false, Modifier.isPublic(c.getModifiers()));
            for (Method m : c.getDeclaredMethods()) {
                check.same(m + " takes at most seven", true, m.getParameterCount() <= 7);
                check.same(m + " has a name of its own", false, faceNames.contains(m.getName()));
            }
            for (Field f : c.getDeclaredFields()) {
                boolean isFine = !Modifier.isStatic(f.getModifiers()) || Modifier.isFinal(f.getModifiers());
                check.same(f + " is no static state", true, isFine);
            }
        }
    }

    private static void sourceKeepsToTheLanguage(Check check) throws Exception {
        String whole = Files.readString(Path.of("src/main/java/SequenceMatch.java"));
        String source = whole.replaceAll("(?s)/\\*.*?\\*/", "").replaceAll("(?m)//.*$", "");
        List<String> banned = List.of("->", "::", "\\btry\\b", "\\bcatch\\b", "\\bfinally\\b", "\\bsynchronized\\b",
                "\\bassert\\b", "\\w+Exact\\b", "\\bpackage\\b", "\\bSystem\\.(?!arraycopy)", "\\bThread\\b",
                "\\bRandom\\b", "\\bdouble\\b", "\\bfloat\\b", "\\bstatic\\s*\\{", "\\bnull\\b");
        for (String word : banned) {
            Matcher m = Pattern.compile(word).matcher(source);
            check.same("the source holds " + word, false, m.find());
        }
        Matcher imports = Pattern.compile("(?m)^import (.*);$").matcher(source);
        List<String> got = new ArrayList<>();
        while (imports.find()) {
            got.add(imports.group(1));
        }
        check.same("imports", Arrays.asList("java.util.Arrays"), got);
    }
}
