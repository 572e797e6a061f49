import java.io.IOException;
import java.lang.reflect.Constructor;
import java.lang.reflect.Field;
import java.lang.reflect.Method;
import java.lang.reflect.Modifier;
import java.nio.charset.StandardCharsets;
import java.nio.file.Files;
import java.nio.file.Path;
import java.util.Arrays;
import java.util.List;
import java.util.Set;
import java.util.TreeSet;
import java.util.regex.Matcher;
import java.util.regex.Pattern;

/** The face of the document, and what of ../shared/LANGUAGE.md can be seen from outside. Run from the project's root. */
public final class LanguageTest {
    private static final String[] FACE = {
        "int row(int,int,int)", "int set(int,int,long)", "int copy(int,int,int,int,int)", "long element(int,int)",
        "int show(int,int)", "int holds(int)", "int says(int,int)", "int place(int,int)", "int placeOf(int,int)",
        "int road(int,int,int)", "int miles(int,int)", "int ask(int,int)", "int map(int)", "int fault()",
        "int cost(int,int,int)", "int yields(int,int)", "int away(int,int)", "int shortest(int,int,int)",
        "int within(int,int)", "int whole(int)", "int harm(int,int,int)", "int leastHarm()",
        "int cheapest(int,int,int,int)", "int meet(int,int)", "int journey(int,int,int,int)", "int judge(int)",
        "int mend(int)", "int pinches(int,int)", "int left(int,int)", "int done(int,int)", "int theft(int,int)",
        "int mill(int,int)", "int spread(int,int,int)", "int gale(int)", "int seed(int)", "int act(int,int,int)",
        "int trace(int)", "int image()", "int restore()", "int status(int)"
    };

    private static final String[] FORBIDDEN = {
        "\\bthrow\\b", "\\btry\\b", "\\bcatch\\b", "\\bsynchronized\\b", "\\bassert\\b", "->", "::", "\\bhashCode\\b",
        "\\btoString\\b", "\\w+Exact\\b", "\\bpackage\\b", "\\bSystem\\.(?!arraycopy\\b)", "\\bstatic\\s*\\{",
        "\\bprotected\\b", "\\bRandom\\b", "\\bThread\\b", "\\bObject\\b", "\\bwhile \\(true\\)", "for \\(;;\\)"
    };

    public static void main(String[] args) throws IOException {
        face();
        ownClasses();
        source();
        Due.end();
    }

    private static void isTrue(String what, boolean holds) {
        Due.due(what, holds ? 1 : 0, 1);
    }

    private static String told(Method method) {
        StringBuilder text = new StringBuilder(method.getReturnType() + " " + method.getName() + "(");
        for (int i = 0; i < method.getParameterCount(); i++) {
            text.append(i == 0 ? "" : ",").append(method.getParameterTypes()[i]);
        }
        return text.append(")").toString();
    }

    private static void face() {
        Class<?> mill = MillOfDistances.class;
        isTrue("public and final", Modifier.isPublic(mill.getModifiers()) && Modifier.isFinal(mill.getModifiers()));
        Due.due("NONE", MillOfDistances.NONE, -1);
        Set<String> face = new TreeSet<>(Arrays.asList(FACE));
        Set<String> names = new TreeSet<>();
        for (String method : FACE) {
            names.add(method.replaceAll(".* |\\(.*", ""));
        }
        Set<String> found = new TreeSet<>();
        for (Method method : mill.getDeclaredMethods()) {
            if (!method.isSynthetic()) {
                boolean isPrivate = Modifier.isPrivate(method.getModifiers());
                if (!isPrivate) {
                    found.add(told(method));
                }
                isTrue("private or of the face: " + method, isPrivate || face.contains(told(method)));
                isTrue("no private name of the face: " + method, !isPrivate || !names.contains(method.getName()));
                isTrue("static only if private: " + method, isPrivate || !Modifier.isStatic(method.getModifiers()));
            }
        }
        isTrue("the whole face", found.equals(face));
        for (Field field : mill.getDeclaredFields()) {
            isTrue("private, or NONE: " + field, Modifier.isPrivate(field.getModifiers()) || field.getName().equals("NONE"));
        }
        for (Constructor<?> constructor : mill.getDeclaredConstructors()) {
            isTrue("the public constructor", Modifier.isPublic(constructor.getModifiers())
                    && constructor.getParameterCount() == 0);
        }
    }

    private static void ownClasses() {
        Class<?>[] own = MillOfDistances.class.getDeclaredClasses();
        isTrue("some twelve classes", own.length < 12);
        for (Class<?> c : own) {
            isTrue("static: " + c, Modifier.isStatic(c.getModifiers()));
            isTrue("not public: " + c, !Modifier.isPublic(c.getModifiers()) && !Modifier.isProtected(c.getModifiers()));
            isTrue("no classes inside: " + c, c.getDeclaredClasses().length == 0);
        }
        for (Class<?> c : List.of(MillOfDistances.class)) {
            checkMembers(c);
        }
        for (Class<?> c : own) {
            checkMembers(c);
        }
    }

    private static void checkMembers(Class<?> c) {
        int fields = 0;
        for (Field field : c.getDeclaredFields()) {
            boolean isStatic = Modifier.isStatic(field.getModifiers());
            fields += isStatic ? 0 : 1;
            isTrue("static fields are final: " + field, !isStatic || Modifier.isFinal(field.getModifiers()));
        }
        isTrue("some twenty fields: " + c, fields <= 20);
        for (Method method : c.getDeclaredMethods()) {
            isTrue("seven parameters at most: " + method, method.getParameterCount() <= 7);
        }
    }

    private static void source() throws IOException {
        Path file = Path.of("src", "main", "java", "MillOfDistances.java");
        String whole = Files.readString(file, StandardCharsets.US_ASCII);
        String code = whole.replaceAll("(?s)/\\*.*?\\*/", "").replaceAll("//[^\n]*", "").replaceAll("\"[^\"\n]*\"", "\"\"");
        for (String pattern : FORBIDDEN) {
            isTrue("none of " + pattern, !Pattern.compile(pattern).matcher(code).find());
        }
        Matcher imports = Pattern.compile("import ([^;]*);").matcher(code);
        while (imports.find()) {
            isTrue("import " + imports.group(1),
                    List.of("java.util.Arrays", "java.util.ArrayList", "java.util.List").contains(imports.group(1)));
        }
        String[] lines = whole.split("\n");
        for (int i = 0; i < lines.length; i++) {
            Matcher head = Pattern.compile("^( +)[a-z][^=;]*\\) \\{$").matcher(lines[i]);
            if (head.matches() && !lines[i].trim().matches("(if|for|while|switch|\\} ).*")) {
                int end = i;
                while (end < lines.length && !lines[end].equals(head.group(1) + "}")) {
                    end++;
                }
                isTrue("some sixty lines: " + lines[i].trim(), end - i <= 60);
            }
        }
    }
}
