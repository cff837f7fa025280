import java.lang.reflect.Constructor;
import java.lang.reflect.Field;
import java.lang.reflect.Method;
import java.lang.reflect.Modifier;
import java.util.TreeSet;

/** The public face is the document's, with nothing beside it. */
public final class FaceTest {
    private static final String FACE = "[boolean css(char), boolean html(char), int box(int,int), "
            + "int classes(int), int layout(int), int letter(int,int), int lines(), int name(int), "
            + "int nodes(), int open(), int parent(int), int pixel(int,int), int place(int,int), "
            + "int rules(), int value(int,char), void clear()]";

    public static void main(String[] args) {
        Check check = new Check();
        TreeSet<String> seen = new TreeSet<>();
        for (Method method : PlainPage.class.getDeclaredMethods()) {
            if (!Modifier.isPrivate(method.getModifiers()) && !method.isSynthetic()) {
                check.holds(method + " is public", Modifier.isPublic(method.getModifiers()));
                seen.add(method.toString().replace("public ", "").replace("PlainPage.", ""));
            }
        }
        check.same("the methods", seen.toString(), FACE);
        for (Field field : PlainPage.class.getDeclaredFields()) {
            check.holds(field + " is private or NONE", Modifier.isPrivate(field.getModifiers())
                    || field.toString().equals("public static final int PlainPage.NONE"));
        }
        for (Class<?> inside : PlainPage.class.getDeclaredClasses()) {
            check.holds(inside + " is static", Modifier.isStatic(inside.getModifiers()));
        }
        Constructor<?>[] constructors = PlainPage.class.getDeclaredConstructors();
        check.same("constructors", constructors.length, 1);
        check.holds("the constructor is public", Modifier.isPublic(constructors[0].getModifiers()));
        check.holds("the class is final", Modifier.isFinal(PlainPage.class.getModifiers()));
        check.same("NONE", PlainPage.NONE, -1);
        check.end();
    }
}
