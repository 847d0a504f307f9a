import java.lang.reflect.Field;
import java.lang.reflect.Method;
import java.lang.reflect.Modifier;
import java.util.Arrays;
import java.util.TreeSet;

/** The public face, and what LANGUAGE.md's first rules ask of it. */
public final class FaceTests {
    public static void main(String[] args) {
        Checks.due("NONE", CodeMaker.NONE, -1);
        Checks.due("ZERO", CodeMaker.ZERO, -3);
        Checks.due("INDEX", CodeMaker.INDEX, -4);
        Checks.due("LONG", CodeMaker.LONG, -5);
        Checks.due("final", Modifier.isFinal(CodeMaker.class.getModifiers()), true);
        Checks.due("public", Modifier.isPublic(CodeMaker.class.getModifiers()), true);
        Checks.due("constructors", CodeMaker.class.getDeclaredConstructors().length, 1);
        TreeSet<String> visible = new TreeSet<>();
        TreeSet<String> hidden = new TreeSet<>();
        for (Method method : CodeMaker.class.getDeclaredMethods()) {
            boolean isHidden = Modifier.isPrivate(method.getModifiers());
            (isHidden ? hidden : visible).add(method.getName());
            if (!isHidden) {
                Checks.due(method.getName() + " answers", method.getReturnType(), int.class);
                Checks.due(method.getName() + " is public", Modifier.isPublic(method.getModifiers()), true);
            }
        }
        Checks.due("methods", visible.toString(), "[clear, count, end, feed, get, length, make, run, set, told]");
        TreeSet<String> both = new TreeSet<>(visible);
        both.retainAll(hidden);
        Checks.due("private methods named as public ones", both.toString(), "[]");
        TreeSet<String> fields = new TreeSet<>();
        for (Field field : CodeMaker.class.getDeclaredFields()) {
            if (!Modifier.isPrivate(field.getModifiers())) {
                fields.add(field.getName());
            }
        }
        Checks.due("fields", fields.toString(), "[INDEX, LONG, NONE, ZERO]");
        for (Class<?> inside : CodeMaker.class.getDeclaredClasses()) {
            Checks.due(inside + " is static", Modifier.isStatic(inside.getModifiers()), true);
            for (Field field : inside.getDeclaredFields()) {
                boolean isShared = Modifier.isStatic(field.getModifiers());
                Checks.due(field + " does not change", !isShared || Modifier.isFinal(field.getModifiers()), true);
            }
            int own = (int) Arrays.stream(inside.getDeclaredFields())
                .filter(field -> !Modifier.isStatic(field.getModifiers())).count();
            Checks.due(inside + " has up to twenty fields", own <= 20, true);
        }
        Checks.due("up to twelve classes", CodeMaker.class.getDeclaredClasses().length <= 11, true);
        Checks.finish("FaceTests");
    }
}
