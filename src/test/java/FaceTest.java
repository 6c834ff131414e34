import java.io.IOException;
import java.lang.reflect.Constructor;
import java.lang.reflect.Field;
import java.lang.reflect.Member;
import java.lang.reflect.Method;
import java.lang.reflect.Modifier;
import java.nio.file.Files;
import java.nio.file.Path;
import java.util.ArrayList;
import java.util.List;
import java.util.TreeSet;

/** The public face, and those rules of ../shared/LANGUAGE.md that a short look at the class can tell. */
public final class FaceTest {
    private static final String[] FACE = {
        "addArticle 2", "removeArticle 1", "setArticle 3", "addSentence 2", "addQuote 4", "removeQuote 1",
        "place 4", "lift 1", "floatAll 0", "setRule 2", "take 1", "restore 1", "undo 0", "append 1",
        "clearText 0", "load 0", "count 1", "article 2", "lineAt 2", "sentence 3", "quote 2", "module 1",
        "page 2", "refusal 4", "bestPlace 2", "troubled 0", "roomFor 1",
    };
    private static final String[] FORBIDDEN = {
        "\\bthrow\\b", "\\bthrows\\b", "\\btry\\b", "\\bcatch\\b", "\\bfinally\\b", "\\bsynchronized\\b",
        "\\bassert\\b", "->", "::", "\"\\s*\\+", "\\+\\s*\"", "\\.equals\\(", "hashCode", "toString", "Exact\\(",
        "System\\.(?!arraycopy)", "\\bstatic\\s*\\{", "@SuppressWarnings",
    };

    public static void main(String[] args) throws IOException {
        constants();
        members();
        nestedClasses();
        source();
        Check.end();
    }

    private static void constants() {
        Check.due("INVALID_ARGUMENT", QuoteGrid.INVALID_ARGUMENT, -1);
        Check.due("ILLEGAL_STATE", QuoteGrid.ILLEGAL_STATE, -2);
        Check.due("CAPACITY_EXCEEDED", QuoteGrid.CAPACITY_EXCEEDED, -3);
        Check.due("NONE", QuoteGrid.NONE, -99);
    }

    private static void members() {
        List<String> shown = new ArrayList<>();
        for (Method method : QuoteGrid.class.getDeclaredMethods()) {
            if (!Modifier.isPrivate(method.getModifiers())) {
                shown.add(method.getName() + " " + method.getParameterCount());
                Check.due(method + " answers an int", method.getReturnType() == int.class ? 1 : 0, 1);
                Check.due(method + " is public", Modifier.isPublic(method.getModifiers()) ? 1 : 0, 1);
            }
        }
        Check.due("the methods of the face", shown.size(), FACE.length);
        for (String name : FACE) {
            Check.due(name + " is there", shown.contains(name) ? 1 : 0, 1);
        }
        int fields = 0;
        for (Field field : QuoteGrid.class.getDeclaredFields()) {
            fields += Modifier.isPrivate(field.getModifiers()) ? 0 : 1;
        }
        Check.due("the constants of the face", fields, 4);
        for (Constructor<?> constructor : QuoteGrid.class.getDeclaredConstructors()) {
            Check.due(constructor + " has no parameters", constructor.getParameterCount(), 0);
        }
        Check.due("the class is public and final", QuoteGrid.class.getModifiers(), Modifier.PUBLIC | Modifier.FINAL);
    }

    private static void nestedClasses() {
        TreeSet<String> names = new TreeSet<>();
        for (String name : FACE) {
            names.add(name.substring(0, name.indexOf(' ')));
        }
        Class<?>[] nested = QuoteGrid.class.getDeclaredClasses();
        Check.due("there are at most twelve classes", nested.length < 12 ? 1 : 0, 1);
        for (Class<?> inner : nested) {
            Check.due(inner + " is static", Modifier.isStatic(inner.getModifiers()) ? 1 : 0, 1);
            Check.due(inner + " is not public", inner.getModifiers() & (Modifier.PUBLIC | Modifier.PROTECTED), 0);
            for (Method method : inner.getDeclaredMethods()) {
                Check.due(method + " has a name of its own", names.contains(method.getName()) ? 1 : 0, 0);
                Check.due(method + " has at most seven parameters", method.getParameterCount() < 8 ? 1 : 0, 1);
            }
            for (Field field : inner.getDeclaredFields()) {
                Check.due(field + " is no state of the class", isStaticState(field) ? 1 : 0, 0);
            }
        }
        for (Field field : QuoteGrid.class.getDeclaredFields()) {
            Check.due(field + " is no state of the class", isStaticState(field) ? 1 : 0, 0);
        }
        for (Method method : QuoteGrid.class.getDeclaredMethods()) {
            if (Modifier.isPrivate(method.getModifiers())) {
                Check.due(method + " has a name of its own", names.contains(method.getName()) ? 1 : 0, 0);
            }
        }
    }

    private static boolean isStaticState(Member field) {
        return Modifier.isStatic(field.getModifiers()) && !Modifier.isFinal(field.getModifiers());
    }

    private static void source() throws IOException {
        String source = Files.readString(Path.of("src/main/java/QuoteGrid.java"));
        String code = source.replaceAll("(?s)/\\*.*?\\*/", " ").replaceAll("//[^\n]*", " ");
        for (String forbidden : FORBIDDEN) {
            Check.due("the code has " + forbidden, code.split(forbidden, -1).length - 1, 0);
        }
        for (String line : code.split("\n")) {
            if (line.startsWith("import")) {
                Check.due(line, line.equals("import java.util.Arrays;") ? 1 : 0, 1);
            }
        }
    }
}
