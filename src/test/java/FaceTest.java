import java.lang.reflect.Constructor;
import java.lang.reflect.Field;
import java.lang.reflect.Method;
import java.lang.reflect.Modifier;
import java.util.Arrays;
import java.util.Set;
import java.util.TreeSet;

/** The public face, to the letter, and nothing beside it. */
public final class FaceTest {
    private static final String[] FACE = {
        "int feed(int, int, int, int, int)", "boolean end(int)",
        "int hall() IllegalArgumentException UnsupportedOperationException", "int law() IllegalArgumentException",
        "int fault()", "int thing(int, int) IndexOutOfBoundsException NoSuchElementException",
        "int visitor(int, int) IndexOutOfBoundsException NoSuchElementException",
        "int liking(int, int) IndexOutOfBoundsException", "int move(int, int) IndexOutOfBoundsException",
        "int hold(int, int) IndexOutOfBoundsException IllegalArgumentException",
        "boolean show(int, boolean) IndexOutOfBoundsException",
        "int clean(int, int) IndexOutOfBoundsException IllegalArgumentException",
        "boolean mark(int, int, boolean) IndexOutOfBoundsException",
        "void trade(int, int) IndexOutOfBoundsException IllegalArgumentException",
        "int days(int) IllegalArgumentException", "int had()", "int first()", "int most()",
        "int dearest(int) IndexOutOfBoundsException", "int cannot()", "int change(boolean)",
        "int right(int, boolean) IndexOutOfBoundsException", "int fewest()", "int alone()",
        "int rivals(int, int) IndexOutOfBoundsException IllegalArgumentException",
        "int group(int, boolean) IndexOutOfBoundsException", "int wants(boolean) IllegalArgumentException",
        "int send() IllegalArgumentException",
        "int about(int, int, int) IndexOutOfBoundsException NoSuchElementException",
        "int ahead(int, int, int) IndexOutOfBoundsException IllegalArgumentException NoSuchElementException",
        "int last(int, boolean) IndexOutOfBoundsException", "int comes(int) IndexOutOfBoundsException",
        "int steps(int) IndexOutOfBoundsException", "int trial(int) IllegalArgumentException",
        "int span(int, boolean) IllegalArgumentException", "int led(int, boolean) IndexOutOfBoundsException",
        "int log(int, int) NoSuchElementException", "int seed(int)", "boolean undo()", "void image()",
        "boolean back()", "int count(int)",
    };

    private static String told(Method m) {
        StringBuilder b = new StringBuilder(m.getReturnType() + " " + m.getName() + "(");
        for (int i = 0; i < m.getParameterCount(); i++) {
            b.append(i == 0 ? "" : ", ").append(m.getParameterTypes()[i]);
        }
        b.append(")");
        for (Class<?> e : m.getExceptionTypes()) {
            b.append(' ').append(e.getSimpleName());
        }
        return b.toString();
    }

    public static void main(String[] args) {
        Check c = new Check();
        Set<String> found = new TreeSet<>();
        Set<String> names = new TreeSet<>();
        for (Method m : BeltHall.class.getDeclaredMethods()) {
            if (!Modifier.isPrivate(m.getModifiers())) {
                c.due(m.getName() + " is public and of the object", Modifier.PUBLIC, m::getModifiers);
                found.add(told(m));
                names.add(m.getName());
            }
        }
        c.due("the methods", new TreeSet<>(Arrays.asList(FACE)), () -> found);
        for (Class<?> k : BeltHall.class.getDeclaredClasses()) {
            c.due(k + " is static", true, () -> Modifier.isStatic(k.getModifiers()));
            for (Method m : k.getDeclaredMethods()) {
                c.due(k + "." + m.getName() + " bears a public name", false, () -> names.contains(m.getName()));
            }
        }
        for (Method m : BeltHall.class.getDeclaredMethods()) {
            if (Modifier.isPrivate(m.getModifiers())) {
                c.due(m.getName() + " bears a public name", false, () -> names.contains(m.getName()));
            }
        }
        int shown = 0;
        for (Field f : BeltHall.class.getDeclaredFields()) {
            shown += Modifier.isPrivate(f.getModifiers()) ? 0 : 1;
        }
        int all = shown;
        c.due("fields that are not private", 1, () -> all);
        Constructor<?>[] constructors = BeltHall.class.getDeclaredConstructors();
        c.due("constructors", 1, () -> constructors.length);
        c.due("the constructor", "public BeltHall()", constructors[0]::toString);
        c.due("the class", Modifier.PUBLIC | Modifier.FINAL, BeltHall.class::getModifiers);
        c.due("NONE", -1, () -> BeltHall.NONE);
        c.finish();
    }
}
