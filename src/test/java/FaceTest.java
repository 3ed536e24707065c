import java.lang.reflect.Constructor;
import java.lang.reflect.Field;
import java.lang.reflect.Method;
import java.lang.reflect.Modifier;
import java.util.Arrays;
import java.util.Set;
import java.util.TreeSet;

/** The class shows the document's face and nothing else. */
public final class FaceTest {
    private static final String[] FACE = {
        "int feed(int, int, int, int, int)", "int text(int)", "int fault(int)", "int named(int)",
        "int bay(int, int)", "int lane(int, int)", "int deed(int, int)", "int wind(int)", "int mood(int, int)",
        "int holds(int, int)", "long law(int, int)", "int sail(int)", "int kind(int, int)", "boolean copy(boolean)",
        "int go(int)", "int firstAdrift(int)", "int way(int, int)", "int never()", "int kindness(int, int)",
        "int winter(int, int)", "long copies(int, int)", "int bids(int)", "int rests(int)", "int rest(int, int)",
        "int note(int, int, boolean)", "int out(int)", "boolean known(int)", "int was(int)", "int tells(int)",
        "int chance(int, int, int)", "int tried(int, int, int)", "int undo()", "int keep()", "int back()",
        "int count(int)",
    };

    private static final String THROWN =
        "[class java.lang.IndexOutOfBoundsException, class java.util.NoSuchElementException]";

    private FaceTest() {
    }

    public static void main(String[] args) {
        Set<String> shown = new TreeSet<>();
        Set<String> names = new TreeSet<>();
        for (Method method : MoodAnchor.class.getDeclaredMethods()) {
            if (Modifier.isPublic(method.getModifiers())) {
                shown.add(describe(method));
                names.add(method.getName());
            }
        }
        Check.due("the public methods " + shown, shown.equals(new TreeSet<>(Arrays.asList(FACE))), true);
        for (Method method : MoodAnchor.class.getDeclaredMethods()) {
            boolean hidden = Modifier.isPrivate(method.getModifiers()) && !names.contains(method.getName());
            Check.due(method + " is of the face or hidden", hidden || Modifier.isPublic(method.getModifiers()), true);
        }
        for (Class<?> inside : MoodAnchor.class.getDeclaredClasses()) {
            for (Method method : inside.getDeclaredMethods()) {
                Check.due(method + " bears no name of the face", names.contains(method.getName()), false);
            }
        }
        for (Method method : MoodAnchor.class.getDeclaredMethods()) {
            String due = method.getName().equals("bay") ? THROWN : "[]";
            Check.due(method + " throws as the face says", Arrays.toString(method.getExceptionTypes()).equals(due), true);
        }
        for (Constructor<?> made : MoodAnchor.class.getDeclaredConstructors()) {
            Check.due(made + " is public, without arguments",
                Modifier.isPublic(made.getModifiers()) && made.getParameterCount() == 0, true);
        }
        for (Field field : MoodAnchor.class.getDeclaredFields()) {
            boolean isFace = field.getName().equals("NONE") && Modifier.isPublic(field.getModifiers());
            Check.due(field + " is NONE or hidden", isFace || Modifier.isPrivate(field.getModifiers()), true);
        }
        for (Class<?> inside : MoodAnchor.class.getDeclaredClasses()) {
            Check.due(inside + " is hidden and static",
                Modifier.isPrivate(inside.getModifiers()) && Modifier.isStatic(inside.getModifiers()), true);
        }
        Check.due("final", Modifier.isFinal(MoodAnchor.class.getModifiers()), true);
        Check.due("NONE", MoodAnchor.NONE, -1);
        Check.end();
    }

    private static String describe(Method method) {
        StringBuilder text = new StringBuilder();
        text.append(method.getReturnType()).append(' ').append(method.getName()).append('(');
        Class<?>[] types = method.getParameterTypes();
        for (int i = 0; i < types.length; i++) {
            text.append(i == 0 ? "" : ", ").append(types[i]);
        }
        return text.append(')').toString();
    }
}
