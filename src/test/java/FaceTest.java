import java.lang.reflect.Constructor;
import java.lang.reflect.Field;
import java.lang.reflect.Method;
import java.lang.reflect.Modifier;
import java.util.Set;
import java.util.TreeSet;

/** The public face is the document's, and nothing else of the class can be seen from outside. */
public final class FaceTest {
    public static void main(String[] args) {
        Checks checks = new Checks("face");
        Class<?> face = ExpressionReader.class;
        checks.due("the class", Modifier.toString(face.getModifiers()), "public final");

        Set<String> methods = new TreeSet<>();
        for (Method m : face.getDeclaredMethods()) {
            if (!Modifier.isPrivate(m.getModifiers())) {
                methods.add(m.toString().replace("ExpressionReader.", "").replace("java.lang.", ""));
            }
        }
        Set<String> due = new TreeSet<>(Set.of(
                "public boolean type(long,int)", "public boolean bar()", "public int place()",
                "public boolean constant(long)", "public int read(boolean) throws IllegalArgumentException",
                "public int fault()", "public long value()", "public int side(int)", "public int token(int,int)"));
        checks.due("methods", methods, due);

        Constructor<?>[] makers = face.getDeclaredConstructors();
        checks.due("constructors", makers.length, 1);
        checks.due("the constructor", makers[0].toString(), "public ExpressionReader()");
        for (Field f : face.getDeclaredFields()) {
            checks.due("field " + f.getName() + " is private", Modifier.isPrivate(f.getModifiers()), true);
        }
        for (Class<?> inside : face.getDeclaredClasses()) {
            int seen = inside.getModifiers();
            checks.due(inside.getName() + " is static", Modifier.isStatic(seen), true);
            checks.due(inside.getName() + " is seen outside", Modifier.isPublic(seen) || Modifier.isProtected(seen), false);
        }
        checks.end();
    }
}
