import java.io.IOException;
import java.lang.reflect.Constructor;
import java.lang.reflect.Field;
import java.lang.reflect.Method;
import java.lang.reflect.Modifier;
import java.nio.file.Files;
import java.nio.file.Path;
import java.util.ArrayList;
import java.util.List;
import java.util.TreeSet;
import java.util.regex.Matcher;
import java.util.regex.Pattern;

/** The public face, and such rules of the language as can be seen from the class and its text. */
public final class FaceTest {
    private static final String[] FACE = {
        "int status()", "int out(int)", "boolean put(int,int,int)", "boolean fill(int,int,int,int,int)",
        "boolean gap(int,int)", "int number(int,int)", "int told(int,int)", "boolean model(int,boolean,int)",
        "boolean step(int,int)", "boolean unstep(int,int)", "int feast(int)", "boolean on(int,int,int)",
        "boolean plain(int)", "boolean strange(int,int,boolean)", "int isStrange(int,int)", "int part(int,int)",
        "int stepBy(int,int)", "int feastBy(int,int)", "int season(int,int)", "int at(int,int,int)",
        "int rest(int,int)", "int where(int)", "int rounds(int,int,int)", "int pull(int,int,int)",
        "int right(int,int,int,int,int,int)"};
    private static final String[] FORBIDDEN = {
        "\\bthrow\\b", "\\btry\\b", "\\bcatch\\b", "\\bsynchronized\\b", "\\bassert\\b", "\\bthrows\\b",
        "->", "::", "\\bpackage\\b", "\\bprotected\\b", "Exact\\b", "\\bSystem\\.(?!arraycopy)", "\\bRandom\\b",
        "\\bThread\\b", "\\bBigInteger\\b", "\\bObject\\b", "\\bvar\\b", "\\bfinalize\\b"};
    private static int wrong = 0;

    public static void main(String[] args) throws IOException {
        methods();
        fieldsAndConstructors();
        insides();
        text();
        System.out.println(wrong == 0 ? "the face is as due" : wrong + " things are not as due");
        if (wrong != 0) {
            System.exit(1);
        }
    }

    private static void check(boolean holds, String what) {
        if (!holds) {
            wrong++;
            System.out.println(what);
        }
    }

    private static void methods() {
        TreeSet<String> due = new TreeSet<>(List.of(FACE));
        TreeSet<String> names = new TreeSet<>();
        for (String m : FACE) {
            names.add(m.substring(m.indexOf(' ') + 1, m.indexOf('(')));
        }
        for (Method m : SeasonRows.class.getDeclaredMethods()) {
            if (Modifier.isPublic(m.getModifiers())) {
                check(due.remove(signature(m)), "not of the face: " + m);
                check(!Modifier.isStatic(m.getModifiers()), "static: " + m);
            } else {
                check(Modifier.isPrivate(m.getModifiers()), "neither public nor private: " + m);
                check(!names.contains(m.getName()), "a public name: " + m);
            }
            check(m.getParameterCount() <= 7, "more than seven parameters: " + m);
        }
        check(due.isEmpty(), "missing: " + due);
        for (Class<?> inside : SeasonRows.class.getDeclaredClasses()) {
            for (Method m : inside.getDeclaredMethods()) {
                check(!names.contains(m.getName()), "a public name: " + m);
                check(m.getParameterCount() <= 7, "more than seven parameters: " + m);
            }
        }
    }

    private static String signature(Method m) {
        List<String> kinds = new ArrayList<>();
        for (Class<?> c : m.getParameterTypes()) {
            kinds.add(c.getName());
        }
        return m.getReturnType().getName() + " " + m.getName() + "(" + String.join(",", kinds) + ")";
    }

    private static void fieldsAndConstructors() {
        check(SeasonRows.NONE == -1, "NONE is " + SeasonRows.NONE);
        int of = SeasonRows.class.getModifiers();
        check(Modifier.isPublic(of) && Modifier.isFinal(of), "the class is not public and final");
        for (Field f : SeasonRows.class.getDeclaredFields()) {
            check(Modifier.isPrivate(f.getModifiers()) || f.getName().equals("NONE"), "not private: " + f);
        }
        Constructor<?>[] all = SeasonRows.class.getDeclaredConstructors();
        check(all.length == 1 && all[0].getParameterCount() == 0 && Modifier.isPublic(all[0].getModifiers()),
            "the constructors are not as due");
    }

    private static void insides() {
        Class<?>[] all = SeasonRows.class.getDeclaredClasses();
        check(all.length + 1 <= 12, "more than twelve classes");
        for (Class<?> inside : all) {
            check(Modifier.isStatic(inside.getModifiers()), "not static: " + inside);
            int fields = 0;
            for (Field f : inside.getDeclaredFields()) {
                boolean isStatic = Modifier.isStatic(f.getModifiers());
                fields += isStatic ? 0 : 1;
                check(!isStatic || Modifier.isFinal(f.getModifiers()), "static and not final: " + f);
            }
            check(fields <= 20, "more than twenty fields: " + inside);
        }
    }

    private static void text() throws IOException {
        String source = Files.readString(Path.of("src/main/java/SeasonRows.java"));
        String code = source.replaceAll("(?s)/\\*.*?\\*/", " ").replaceAll("//[^\n]*", " ");
        for (String word : FORBIDDEN) {
            Matcher found = Pattern.compile(word).matcher(code);
            check(!found.find(), "the text has " + word);
        }
        Matcher imports = Pattern.compile("import ([^;]+);").matcher(code);
        while (imports.find()) {
            check(imports.group(1).equals("java.util.Arrays"), "an import: " + imports.group(1));
        }
        check(source.chars().allMatch(c -> c < 128), "the text has characters beyond 127");
    }
}
