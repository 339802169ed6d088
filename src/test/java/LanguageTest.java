import java.lang.reflect.Constructor;
import java.lang.reflect.Field;
import java.lang.reflect.Method;
import java.lang.reflect.Modifier;
import java.nio.file.Files;
import java.nio.file.Path;
import java.util.HashSet;
import java.util.Set;
import java.util.TreeSet;
import java.util.regex.Matcher;
import java.util.regex.Pattern;

/** The face of the document, and the rules of LANGUAGE.md that a text or the class's own description can show. */
public final class LanguageTest {
    static final String[] FACE = {
        "int procedure(int,int)", "int ends(int,boolean)", "int outcome(int,int)", "int node(int,int,int,int,int)",
        "int call(int,int,int,int)", "int argument(int,int,int)", "int copy(int,int,int,int,int)", "int edge(int,int)",
        "int told(int,int)", "int given(int,int)", "int is(int,int)", "int client(int)", "int flow(int,int,int,int)",
        "int zero(int,int,int)", "int forget(int,int)", "int begin(int)", "int goes(int,int,int)", "int solve(int)",
        "int solved()", "int holds(int)", "int edges(boolean)", "int from(int,int)", "int summary(int,int)",
        "int share(int)", "long length(int,int)", "int track(int,int)", "int at(int,int)", "int reports()",
        "int report(int,int)", "int count(int)", "int finding()", "int findings(int)", "long digest()"};
    static final String[] FORBIDDEN = {"throw", "throws", "try", "catch", "finally", "synchronized", "assert", "volatile",
        "native", "package", "Object", "Exception", "hashCode", "toString", "System\\.(?!arraycopy)", "->", "::",
        "Long\\.MAX_VALUE", "Integer\\.MAX_VALUE", "\\w+Exact", "Random", "Thread", "protected"};
    static int wrong;

    static void must(boolean holds, String what) {
        if (!holds) {
            wrong++;
            System.out.println(what);
        }
    }

    static String described(Method m) {
        StringBuilder text = new StringBuilder(m.getReturnType().getSimpleName()).append(' ').append(m.getName()).append('(');
        for (Class<?> c : m.getParameterTypes()) {
            text.append(text.charAt(text.length() - 1) == '(' ? "" : ",").append(c.getSimpleName());
        }
        return text.append(')').toString();
    }

    static void checkFace() throws Exception {
        Class<?> c = ValidPaths.class;
        must(Modifier.isPublic(c.getModifiers()) && Modifier.isFinal(c.getModifiers()), "the class is not public and final");
        Set<String> seen = new TreeSet<>();
        Set<String> names = new HashSet<>();
        for (Method m : c.getDeclaredMethods()) {
            if (Modifier.isPublic(m.getModifiers())) {
                seen.add(described(m));
                names.add(m.getName());
            } else {
                must(Modifier.isPrivate(m.getModifiers()), "neither public nor private: " + m);
            }
        }
        must(seen.equals(new TreeSet<>(Set.of(FACE))), "the face is another one: " + seen);
        int made = 0;
        for (Constructor<?> k : c.getDeclaredConstructors()) {
            must(Modifier.isPublic(k.getModifiers()) && k.getParameterCount() == 0, "a constructor besides: " + k);
            made++;
        }
        must(made == 1, "not one constructor");
        String[] constants = {"BAD", "FULL", "FINDING", "STATE", "NONE"};
        for (int i = 0; i < constants.length; i++) must(c.getField(constants[i]).getInt(null) == -1 - i, constants[i]);
        must(c.getFields().length == constants.length, "another public field");
        checkMembers(c, names);
        for (Class<?> inside : c.getDeclaredClasses()) {
            must(Modifier.isStatic(inside.getModifiers()) && !Modifier.isPublic(inside.getModifiers()), "no static class: " + inside);
            checkMembers(inside, names);
        }
        must(c.getDeclaredClasses().length <= 12, "more than twelve classes");
    }

    static void checkMembers(Class<?> c, Set<String> names) {
        int own = 0;
        for (Field f : c.getDeclaredFields()) {
            int m = f.getModifiers();
            must(!Modifier.isStatic(m) || Modifier.isFinal(m), "a static field that is not final: " + f);
            must(Modifier.isPublic(m) || Modifier.isPrivate(m), "a field to be seen: " + f);
            own += Modifier.isStatic(m) ? 0 : 1;
        }
        must(own <= 20, "more than twenty fields: " + c);
        for (Method m : c.getDeclaredMethods()) {
            must(m.getParameterCount() <= 7, "more than seven parameters: " + m);
            must(c == ValidPaths.class && Modifier.isPublic(m.getModifiers()) || !names.contains(m.getName()),
                "bears the name of a public method: " + m);
        }
    }

    static void checkText() throws Exception {
        String text = Files.readString(Path.of("src/main/java/ValidPaths.java"));
        String code = text.replaceAll("(?s)/\\*.*?\\*/", "").replaceAll("//[^\n]*", "");
        for (String word : FORBIDDEN) {
            String pattern = Character.isLetter(word.charAt(0)) && word.matches("\\w+") ? "\\b" + word + "\\b" : word;
            Matcher found = Pattern.compile(pattern).matcher(code);
            must(!found.find(), "outside the language: " + word);
        }
        for (String line : code.split("\n")) {
            must(!line.startsWith("import") || line.equals("import java.util.Arrays;"), line);
            must(!line.contains(" new ") || line.contains("private final"), "makes an object in a method: " + line);
        }
        for (int i = 0; i < text.length(); i++) must(text.charAt(i) < 128, "a character above 127");
        checkMethodLengths(code);
    }

    static void checkMethodLengths(String code) {
        int start = 0;
        String[] lines = code.split("\n");
        for (int i = 0; i < lines.length; i++) {
            if (lines[i].matches("( {4}| {8})\\w[^=;]*\\) \\{")) start = i;
            if (lines[i].matches("( {4}| {8})\\}") && start > 0) {
                must(i - start < 60, "a long method at line " + start);
                start = 0;
            }
        }
    }

    public static void main(String[] args) throws Exception {
        checkFace();
        checkText();
        System.out.println(wrong == 0 ? "the class keeps to the language" : wrong + " things are outside the language");
        if (wrong != 0) System.exit(1);
    }
}
