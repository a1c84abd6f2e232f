import java.lang.reflect.Constructor;
import java.lang.reflect.Field;
import java.lang.reflect.Method;
import java.lang.reflect.Modifier;
import java.util.Arrays;
import java.util.Set;
import java.util.TreeSet;

/** The public face is the document's, and no member besides it can be seen. */
public final class FaceTest {
    private static final Set<String> METHODS = new TreeSet<>(Arrays.asList(
            "allow 3", "put 3", "load 1", "count 0", "entry 3", "isGood 0", "rank 0",
            "negatives 1", "weight 1", "having 3", "corner 3", "inversions 1", "mix 3",
            "pathEnd 2", "rings 1", "pattern 1", "withPattern 1"));

    public static void main(String[] args) {
        Due due = new Due();
        Class<?> face = SignMatrices.class;
        due.holds("the class is public and final", face.getModifiers() == (Modifier.PUBLIC | Modifier.FINAL));
        due.holds("there is no nested class", face.getDeclaredClasses().length == 0);
        due.holds("nothing is implemented", face.getInterfaces().length == 0);
        due.holds("nothing is extended", face.getSuperclass() == Object.class);

        Constructor<?>[] made = face.getDeclaredConstructors();
        due.is("constructors", made.length, 1);
        due.holds("the constructor is public", made[0].getModifiers() == Modifier.PUBLIC);
        due.holds("it takes an int", Arrays.equals(made[0].getParameterTypes(), new Class<?>[] {int.class}));

        Set<String> seen = new TreeSet<>();
        Set<String> names = new TreeSet<>();
        for (Method method : face.getDeclaredMethods()) {
            if (Modifier.isPrivate(method.getModifiers())) {
                names.add(method.getName());
                continue;
            }
            due.holds(method + " is public alone", method.getModifiers() == Modifier.PUBLIC);
            due.holds(method + " answers an int", method.getReturnType() == int.class);
            for (Class<?> type : method.getParameterTypes()) {
                due.holds(method + " takes ints", type == int.class);
            }
            due.holds(method + " stands once", seen.add(method.getName() + " " + method.getParameterCount()));
        }
        due.holds("the methods are " + METHODS + ", found " + seen, seen.equals(METHODS));
        for (String method : METHODS) {
            due.holds("no private method is named as " + method, !names.contains(method.split(" ")[0]));
        }
        for (Field field : face.getDeclaredFields()) {
            due.holds(field + " is private", Modifier.isPrivate(field.getModifiers()));
        }
        due.end();
    }
}
