import java.lang.reflect.Constructor;
import java.lang.reflect.Field;
import java.lang.reflect.Method;
import java.lang.reflect.Modifier;
import java.util.Set;
import java.util.TreeSet;

/** The document's section "The public face", and rule 1 of LANGUAGE.md, which binds it. */
public final class FaceTest {
    private static final Class<?> FACE = ExpressionReader.class;

    public static void main(String[] args) {
        Sentences all = new Sentences("The public face");
        all.holds("the class, its constructor and its methods", FaceTest::members);
        all.holds("LANGUAGE 1: no other member can be seen", FaceTest::nothingElse);
        all.holds("LANGUAGE 1: no private method bears the name of a public one", FaceTest::namesOfMethods);
        all.end();
    }

    private static void members(Checks checks) {
        checks.due("the class", Modifier.toString(FACE.getModifiers()), "public final");
        Set<String> methods = new TreeSet<>();
        for (Method m : FACE.getDeclaredMethods()) {
            if (!Modifier.isPrivate(m.getModifiers())) {
                methods.add(m.toString().replace("ExpressionReader.", "").replace("java.lang.", ""));
            }
        }
        Set<String> due = new TreeSet<>(Set.of(
                "public boolean type(long,int)", "public boolean bar()", "public int place()",
                "public boolean constant(long)", "public int read(boolean) throws IllegalArgumentException",
                "public int fault()", "public long value()", "public int side(int)", "public int token(int,int)"));
        checks.due("methods", methods, due);
        Constructor<?>[] makers = FACE.getDeclaredConstructors();
        checks.due("constructors", makers.length, 1);
        checks.due("the constructor", makers[0].toString(), "public ExpressionReader()");
    }

    private static void nothingElse(Checks checks) {
        for (Field f : FACE.getDeclaredFields()) {
            checks.due("field " + f.getName() + " is private", Modifier.isPrivate(f.getModifiers()), true);
        }
        for (Class<?> inside : FACE.getDeclaredClasses()) {
            int seen = inside.getModifiers();
            checks.due(inside.getName() + " is static", Modifier.isStatic(seen), true);
            checks.due(inside.getName() + " is seen outside", Modifier.isPublic(seen) || Modifier.isProtected(seen), false);
        }
    }

    private static void namesOfMethods(Checks checks) {
        Set<String> faced = Set.of("type", "bar", "place", "constant", "read", "fault", "value", "side", "token");
        for (Method m : FACE.getDeclaredMethods()) {
            boolean hidden = Modifier.isPrivate(m.getModifiers());
            checks.due(m.getName() + " is private and named as a public one", hidden && faced.contains(m.getName()), false);
        }
    }
}
