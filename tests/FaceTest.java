import java.lang.reflect.Constructor;
import java.lang.reflect.Field;
import java.lang.reflect.Method;
import java.lang.reflect.Modifier;
import java.util.Set;
import java.util.TreeSet;

/** The class has the face of the document, and no more that can be seen from outside. */
public final class FaceTest {
    private static final Set<String> FACE = Set.of(
        "int begin(int, int, int, int, int)", "int fill(int, int, int, int, int)", "int strips(int)",
        "int toLay(int, int, int, int)", "int setGain(int, int)", "int match(int)", "int block(int, int)",
        "int clean(int)", "int patch(int, int, int)", "int put(int, int, int)", "int pass(int)", "int prints(int)",
        "int dry(int, int)", "int ink(int, int, int)", "int spilt(int)", "int used(boolean, int)",
        "int seam(int, int)", "float meanError(int)");

    public static void main(String[] args) {
        Check.due("the class is public and final", Modifier.PUBLIC | Modifier.FINAL,
            StitchBanner.class::getModifiers);
        Check.due("its methods", new TreeSet<>(FACE), FaceTest::visibleMethods);
        Check.due("private methods with a public one's name", 0, FaceTest::namesakes);
        Check.due("its constructors", 1, () -> StitchBanner.class.getDeclaredConstructors().length);
        for (Constructor<?> constructor : StitchBanner.class.getDeclaredConstructors()) {
            Check.due("the constructor", "public StitchBanner()", constructor::toString);
        }
        for (Field field : StitchBanner.class.getDeclaredFields()) {
            Check.due("private: " + field.getName(), true, () -> Modifier.isPrivate(field.getModifiers()));
            boolean isStatic = Modifier.isStatic(field.getModifiers());
            Check.due("final if static: " + field.getName(), true,
                () -> !isStatic || Modifier.isFinal(field.getModifiers()));
        }
        for (Class<?> inside : StitchBanner.class.getDeclaredClasses()) {
            int seen = inside.getModifiers() & (Modifier.PUBLIC | Modifier.PROTECTED);
            Check.due("hidden: " + inside.getName(), 0, () -> seen);
            Check.due("static: " + inside.getName(), true, () -> Modifier.isStatic(inside.getModifiers()));
        }
        Check.end();
    }

    private static TreeSet<String> visibleMethods() {
        TreeSet<String> texts = new TreeSet<>();
        for (Method method : StitchBanner.class.getDeclaredMethods()) {
            if (!Modifier.isPrivate(method.getModifiers())) {
                texts.add(textOf(method));
            }
        }
        return texts;
    }

    private static String textOf(Method method) {
        boolean isPlain = method.getModifiers() == Modifier.PUBLIC;
        StringBuilder text = new StringBuilder(isPlain ? "" : Modifier.toString(method.getModifiers()) + " ");
        text.append(method.getReturnType()).append(' ').append(method.getName()).append('(');
        String between = "";
        for (Class<?> type : method.getParameterTypes()) {
            text.append(between).append(type);
            between = ", ";
        }
        return text.append(')').toString();
    }

    private static int namesakes() {
        int count = 0;
        for (Method method : StitchBanner.class.getDeclaredMethods()) {
            for (String face : FACE) {
                boolean isSame = face.contains(" " + method.getName() + "(");
                count += Modifier.isPrivate(method.getModifiers()) && isSame ? 1 : 0;
            }
        }
        return count;
    }
}
