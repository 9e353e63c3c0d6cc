import java.lang.reflect.Constructor;
import java.lang.reflect.Field;
import java.lang.reflect.Method;
import java.lang.reflect.Modifier;
import java.util.TreeSet;

/** The face: exactly the document's constant, constructor and methods are not private. */
public final class FaceTest {
    private static final String METHODS = "append back constraint decide decision depth domain errorCode errorPosition "
            + "explained explanationSize fact factOf first forbid isSupported learn learnt load overlooked possible "
            + "probe report restart search solutions support tightness truncate tuples watchers";

    public static void main(String[] args) {
        TreeSet<String> open = new TreeSet<>();
        TreeSet<String> hidden = new TreeSet<>();
        for (Method method : SupportSolver.class.getDeclaredMethods()) {
            boolean isPrivate = Modifier.isPrivate(method.getModifiers());
            if (!method.isSynthetic()) {
                (isPrivate ? hidden : open).add(method.getName());
                Check.is(method + " is public or private", isPrivate || Modifier.isPublic(method.getModifiers()), true);
            }
        }
        Check.same("public methods", String.join(" ", open), METHODS);
        hidden.retainAll(open);
        Check.same("private methods with a public name", hidden.toString(), "[]");
        for (Field field : SupportSolver.class.getDeclaredFields()) {
            boolean isPrivate = Modifier.isPrivate(field.getModifiers());
            Check.is(field + " is hidden", isPrivate || field.getName().equals("NONE"), true);
        }
        Constructor<?>[] constructors = SupportSolver.class.getDeclaredConstructors();
        Check.is("constructors", constructors.length, 1);
        Check.is("parameters of the constructor", constructors[0].getParameterCount(), 0);
        Check.is("NONE", SupportSolver.NONE, -1);
        Check.is("the class is final", Modifier.isFinal(SupportSolver.class.getModifiers()), true);
        Check.end();
    }
}
