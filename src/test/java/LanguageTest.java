import java.io.IOException;
import java.lang.reflect.Constructor;
import java.lang.reflect.Field;
import java.lang.reflect.Method;
import java.lang.reflect.Modifier;
import java.nio.file.Files;
import java.nio.file.Path;
import java.util.HashSet;
import java.util.List;
import java.util.Set;
import java.util.TreeSet;
import java.util.regex.Pattern;

/** What of LANGUAGE.md can be seen by reflection and in the source's words. */
public final class LanguageTest {
    private static final Due DUE = new Due();

    public static void main(String[] args) throws IOException {
        face();
        classesInside();
        source(Files.readString(Path.of("src/main/java/OrderGauge.java")));
        DUE.close("LanguageTest");
    }

    // Rule 1
    private static void face() {
        Set<String> names = new TreeSet<>(List.of(Calls.NAMES));
        Set<String> seen = new TreeSet<>();
        for (Method method : OrderGauge.class.getDeclaredMethods()) {
            int how = method.getModifiers();
            boolean open = Modifier.isPublic(how);
            DUE.holds("public or private: " + method, open || Modifier.isPrivate(how));
            DUE.holds("in the face or not named so: " + method, open == names.contains(method.getName()));
            if (open) {
                seen.add(method.getName());
                DUE.holds("int: " + method, method.getReturnType() == int.class && !Modifier.isStatic(how));
            }
        }
        DUE.holds("the whole face", seen.equals(names));
        for (Constructor<?> made : OrderGauge.class.getDeclaredConstructors()) {
            DUE.holds("constructor", Modifier.isPublic(made.getModifiers()) && made.getParameterCount() == 0);
        }
        for (Field field : OrderGauge.class.getDeclaredFields()) {
            boolean constant = field.getName().equals("NONE");
            DUE.holds("public NONE alone: " + field, Modifier.isPublic(field.getModifiers()) == constant);
            DUE.holds("else private: " + field, Modifier.isPrivate(field.getModifiers()) != constant);
        }
        int how = OrderGauge.class.getModifiers();
        DUE.holds("public and final", Modifier.isPublic(how) && Modifier.isFinal(how));
    }

    // Rules 1, 2, 5, 11
    private static void classesInside() {
        Set<String> names = new HashSet<>(List.of(Calls.NAMES));
        Class<?>[] inside = OrderGauge.class.getDeclaredClasses();
        DUE.holds("at most twelve classes", inside.length + 1 <= 12);
        for (Class<?> one : inside) {
            DUE.holds("static: " + one, Modifier.isStatic(one.getModifiers()) && !Modifier.isPublic(one.getModifiers()));
            int fields = 0;
            for (Field field : one.getDeclaredFields()) {
                boolean still = Modifier.isStatic(field.getModifiers());
                fields += still ? 0 : 1;
                DUE.holds("static is final: " + field, !still || Modifier.isFinal(field.getModifiers()));
            }
            DUE.holds("at most twenty fields: " + one, fields <= 20);
            for (Method method : one.getDeclaredMethods()) {
                DUE.holds("not named as one of the face: " + method, !names.contains(method.getName()));
                DUE.holds("at most seven parameters: " + method, method.getParameterCount() <= 7);
            }
        }
    }

    // Rules 3 and 6: words that no line may have; CodeTreeTest sees the rest.
    private static void source(String text) {
        String code = text.replaceAll("(?s)/\\*.*?\\*/", "").replaceAll("//[^\n]*", "").replaceAll("\"[^\"\n]*\"", "\"\"");
        String[] banned = {"throws", "import", "package", "Object", "hashCode", "equals", "toString", "values", "protected",
            "double", "float"};
        for (String word : banned) {
            DUE.holds("no " + word, !Pattern.compile("\\b" + word + "\\b").matcher(code).find());
        }
        DUE.holds("bytes of a text alone", text.chars().allMatch(c -> c < 127));
    }
}
