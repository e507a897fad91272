import java.lang.reflect.Constructor;
import java.lang.reflect.Field;
import java.lang.reflect.Method;
import java.lang.reflect.Modifier;
import java.util.Arrays;
import java.util.TreeSet;

/** The public face, and what LANGUAGE.md says of members and classes. */
public final class FaceTest {
    private static final String[] METHODS = {
        "person(int,int,int)", "of(int,int)", "rule(int,int)", "hope(int,int)", "type(int)", "house()",
        "count(int)", "weeks(int)", "take(int)", "drift(int)", "undo()", "seed(int)", "ahead(int,int)",
        "due()", "dearest(int,int)", "quiet(int,int)", "ends(int)", "raised(int,int,int)",
        "hoped(int,int)", "mean(int,int)", "image()", "restore()", "taken(int,int,int,int,int)",
        "film(int,int,int,int)", "sheet(int,int,int)", "drop(int)", "item(int,int,int,long)",
        "copy(int,int,int,int,int)"};

    public static void main(String[] args) {
        Check c = new Check();
        c.about("the face");
        c.holds("final and public", SeaJar.class.getModifiers() == (Modifier.PUBLIC | Modifier.FINAL));
        constants(c);
        methods(c);
        classes(c);
        c.end("FaceTest");
    }

    private static void constants(Check c) {
        c.due("BAD", SeaJar.BAD, -1);
        c.due("NOT", SeaJar.NOT, -2);
        c.due("FULL", SeaJar.FULL, -3);
        c.due("NONE", SeaJar.NONE, -4);
        c.due("NULL", SeaJar.NULL, -11);
        c.due("CAST", SeaJar.CAST, -12);
        c.due("INDEX", SeaJar.INDEX, -13);
        c.due("SIZE", SeaJar.SIZE, -14);
        int shown = 0;
        for (Field field : SeaJar.class.getDeclaredFields()) {
            shown += Modifier.isPrivate(field.getModifiers()) ? 0 : 1;
        }
        c.due("constants that are shown", shown, 8);
    }

    private static void methods(Check c) {
        TreeSet<String> shown = new TreeSet<>();
        TreeSet<String> names = new TreeSet<>();
        for (Method method : SeaJar.class.getDeclaredMethods()) {
            if (!Modifier.isPrivate(method.getModifiers())) {
                String takes = Arrays.toString(method.getParameterTypes()).replace("[", "(").replace("]", ")");
                shown.add(method.getName() + takes.replace(" ", ""));
                names.add(method.getName());
                c.holds(method + " answers an int", method.getReturnType() == int.class);
                c.holds(method + " is public", method.getModifiers() == Modifier.PUBLIC);
            }
        }
        c.holds("the methods are " + shown, shown.equals(new TreeSet<>(Arrays.asList(METHODS))));
        for (Method method : SeaJar.class.getDeclaredMethods()) {
            c.holds(method + " has a public one's name",
                !Modifier.isPrivate(method.getModifiers()) || !names.contains(method.getName()));
        }
        Constructor<?>[] made = SeaJar.class.getDeclaredConstructors();
        c.due("constructors", made.length, 1);
        c.holds("public, takes nothing",
            made[0].getModifiers() == Modifier.PUBLIC && made[0].getParameterCount() == 0);
    }

    private static void classes(Check c) {
        Class<?>[] inside = SeaJar.class.getDeclaredClasses();
        c.holds("at most some twelve classes", inside.length <= 11);
        for (Class<?> one : inside) {
            int is = one.getModifiers();
            c.holds(one + " is static, not public", Modifier.isStatic(is)
                && !Modifier.isPublic(is) && !Modifier.isProtected(is));
            int fields = 0;
            for (Field field : one.getDeclaredFields()) {
                fields += Modifier.isStatic(field.getModifiers()) ? 0 : 1;
                c.holds(field + " is final, if it is static", !Modifier.isStatic(field.getModifiers())
                    || Modifier.isFinal(field.getModifiers()));
            }
            c.holds(one + " has some twenty fields at most", fields <= 20);
        }
    }
}
