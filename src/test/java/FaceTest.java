import java.io.IOException;
import java.lang.reflect.Constructor;
import java.lang.reflect.Field;
import java.lang.reflect.Method;
import java.lang.reflect.Modifier;
import java.nio.file.Files;
import java.nio.file.Path;
import java.util.Arrays;
import java.util.Set;
import java.util.TreeSet;
import java.util.regex.Pattern;

/** The public face, and those rules of LANGUAGE.md that can be seen in the class and in its text. */
final class FaceTest {
    private static final String[] FACE = {
        "public static final int ConsYard.NONE", "public ConsYard()", "public int ConsYard.feed(int,int,int,int,int)",
        "public int ConsYard.define(int) throws java.lang.IllegalArgumentException",
        "public int ConsYard.eval(int,int) throws java.lang.IllegalArgumentException",
        "public int ConsYard.echo(int) throws java.lang.IllegalArgumentException", "public int ConsYard.place()",
        "public int ConsYard.room(int) throws java.lang.IllegalArgumentException", "public int ConsYard.count(int)",
        "public int ConsYard.function(int)", "public int ConsYard.octet(int)",
    };
    private static final String[] RULED_OUT = {
        "\\bimport\\b", "\\bpackage\\b", "->", "::", "\\bfinally\\b", "\\btry\\b", "\\bcatch\\b", "\\bsynchronized\\b", "\\bassert\\b",
        "\\bstatic\\s*\\{", "Exact\\b", "\\bSystem\\.(?!arraycopy)", "\\bThread\\b", "\\brandom\\b", "\\bObject\\b", "\\bprotected\\b",
        "while \\(true\\)", "for \\(;;\\)",
    };

    public static void main(String[] args) throws IOException {
        Set<String> visible = new TreeSet<>();
        for (Field field : ConsYard.class.getDeclaredFields()) {
            note(visible, field.getModifiers(), field.toGenericString());
        }
        for (Constructor<?> constructor : ConsYard.class.getDeclaredConstructors()) {
            note(visible, constructor.getModifiers(), constructor.toGenericString());
        }
        for (Method method : ConsYard.class.getDeclaredMethods()) {
            note(visible, method.getModifiers(), method.toGenericString());
        }
        Checks.due("the face", visible.toString(), new TreeSet<>(Arrays.asList(FACE)).toString());
        Checks.due("the class", Modifier.toString(ConsYard.class.getModifiers()), "public final");
        insideClasses();
        ruledOut();
        Checks.finish("FaceTest");
    }

    private static void note(Set<String> visible, int modifiers, String member) {
        if (!Modifier.isPrivate(modifiers)) {
            visible.add(member);
        }
    }

    private static void insideClasses() {
        Class<?>[] inside = ConsYard.class.getDeclaredClasses();
        Checks.due("at most twelve classes", inside.length <= 12 ? 1 : 0, 1);
        Set<String> face = Set.of("feed", "define", "eval", "echo", "place", "room", "count", "function", "octet");
        for (Class<?> one : inside) {
            Checks.due(one + " is static and not public", Modifier.isStatic(one.getModifiers()) && !Modifier.isPublic(one.getModifiers()) ? 1 : 0, 1);
            long fields = Arrays.stream(one.getDeclaredFields()).filter(f -> !Modifier.isStatic(f.getModifiers())).count();
            Checks.due(one + " has at most twenty fields", fields <= 20 ? 1 : 0, 1);
            for (Method method : one.getDeclaredMethods()) {
                Checks.due(method + " has a name of its own", face.contains(method.getName()) ? 1 : 0, 0);
                Checks.due(method + " takes at most seven", method.getParameterCount() <= 7 ? 1 : 0, 1);
            }
        }
    }

    private static void ruledOut() throws IOException {
        String text = Files.readString(Path.of("src/main/java/ConsYard.java"));
        String code = text.replaceAll("(?s)/\\*.*?\\*/", "").replaceAll("//[^\n]*", "");
        for (String rule : RULED_OUT) {
            Checks.due("the text has " + rule, Pattern.compile(rule).matcher(code).find() ? 1 : 0, 0);
        }
    }
}
