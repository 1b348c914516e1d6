import java.lang.reflect.Constructor;
import java.lang.reflect.Field;
import java.lang.reflect.Method;
import java.lang.reflect.Modifier;
import java.nio.file.Files;
import java.nio.file.Path;
import java.util.Set;
import java.util.TreeSet;

/** The face of the class is the document's (rule 1), and its source keeps to what can be read off it. */
public final class FaceTest {
    private static final String[] FACE = {
        "row(int, int)", "lay(int, int, int)", "at(int, int)", "tear(int)", "copy(int, int, int, int, int)",
        "mean(int)", "text(int, int)", "put(int, int, int)", "fault(int)", "house(int)", "speaker(int, int)",
        "mark(int, int)", "say(int, int)", "end()", "hour()", "walk(int, int)", "undo(int)", "keep(int)", "on(int)",
        "who(int)", "what(int)", "said(int)", "ways(int)", "few(int, int)", "far(int)", "dumb()", "longest(int)",
        "heard(int)", "sure(int)", "kinds(int, int)", "test(int, int)", "fourth(int, int)", "off(int)", "struck(int)",
        "odds(int, int)", "mid(int, int)", "lots(int, int)", "asked()", "upper()", "lower()", "count(int)",
        "finding()", "findings(int)", "digest()"};
    private static final Set<String> LONGS = Set.of("upper()", "lower()", "digest()");
    private static final String[] FORBIDDEN = {"throw", "try", "catch", "assert", "synchronized", "import", "package",
        "System.out", "Object", "protected", "->", "::", "Exact", "random", "nanoTime"};

    public static void main(String[] args) throws Exception {
        constants();
        members();
        inside();
        source();
        Desk.finish();
    }

    private static void constants() throws Exception {
        String[] names = {"BAD", "FULL", "FINDING", "STATE", "SPENT", "NONE"};
        int[] values = {-1, -2, -3, -4, -6, -9};
        int open = 0;
        for (Field field : HerOrders.class.getDeclaredFields()) {
            if (!Modifier.isPrivate(field.getModifiers())) open++;
            if (Modifier.isStatic(field.getModifiers())) isFinal(field);
        }
        Desk.due("fields that are not private", open, names.length);
        for (int k = 0; k < names.length; k++) {
            Field field = HerOrders.class.getField(names[k]);
            Desk.due(names[k], field.getInt(null), values[k]);
            isFinal(field);
        }
    }

    private static void isFinal(Field field) {
        Desk.due(field + " final", Modifier.isFinal(field.getModifiers()) ? 1 : 0, 1);
    }

    private static String signature(Method method) {
        StringBuilder text = new StringBuilder(method.getName()).append('(');
        for (Class<?> type : method.getParameterTypes()) {
            if (text.charAt(text.length() - 1) != '(') text.append(", ");
            text.append(type.getName());
        }
        return text.append(')').toString();
    }

    private static void members() {
        Set<String> open = new TreeSet<>();
        for (Method method : HerOrders.class.getDeclaredMethods()) {
            if (Modifier.isPrivate(method.getModifiers())) continue;
            String signature = signature(method);
            open.add(signature);
            String result = LONGS.contains(signature) ? "long" : "int";
            Desk.due(signature + " public", Modifier.isPublic(method.getModifiers()) ? 1 : 0, 1);
            Desk.due(signature + " result", method.getReturnType().getName().equals(result) ? 1 : 0, 1);
        }
        Set<String> due = new TreeSet<>(Set.of(FACE));
        Desk.due("the face is " + open, open.equals(due) ? 1 : 0, 1);
        Constructor<?>[] made = HerOrders.class.getDeclaredConstructors();
        Desk.due("constructors", made.length, 1);
        Desk.due("constructor public, without arguments", made[0].getParameterCount() + made[0].getModifiers(), 1);
        Desk.due("class public, final", HerOrders.class.getModifiers(), Modifier.PUBLIC | Modifier.FINAL);
    }

    private static void inside() {
        Set<String> names = new TreeSet<>();
        for (String signature : FACE) names.add(signature.substring(0, signature.indexOf('(')));
        Class<?>[] classes = HerOrders.class.getDeclaredClasses();
        Desk.due("classes inside, at most 12", classes.length <= 12 ? 1 : 0, 1);
        for (Class<?> inside : classes) {
            Desk.due(inside + " static", Modifier.isStatic(inside.getModifiers()) ? 1 : 0, 1);
            Desk.due(inside + " public", Modifier.isPublic(inside.getModifiers()) ? 1 : 0, 0);
            Desk.due(inside + " fields", inside.getDeclaredFields().length <= 20 ? 1 : 0, 1);
            for (Method method : inside.getDeclaredMethods()) named(names, method);
        }
        for (Method method : HerOrders.class.getDeclaredMethods()) {
            if (Modifier.isPrivate(method.getModifiers())) named(names, method);
        }
    }

    private static void named(Set<String> names, Method method) {
        Desk.due(method + " bears a public name", names.contains(method.getName()) ? 1 : 0, 0);
        Desk.due(method + " takes at most seven", method.getParameterCount() <= 7 ? 1 : 0, 1);
    }

    private static void source() throws Exception {
        String text = Files.readString(Path.of("src/main/java/HerOrders.java"));
        for (String word : FORBIDDEN) Desk.due("the source has " + word, text.contains(word) ? 1 : 0, 0);
        for (int i = 0; i < text.length(); i++) {
            if (text.charAt(i) > 126) Desk.due("a sign at " + i, text.charAt(i), 0);
        }
    }
}
