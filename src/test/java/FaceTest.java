import java.lang.reflect.Constructor;
import java.lang.reflect.Field;
import java.lang.reflect.Method;
import java.lang.reflect.Modifier;
import java.util.ArrayList;
import java.util.List;
import java.util.Set;
import java.util.TreeSet;

/** The class shows just what the document's face tells, and its constants have their values. */
public final class FaceTest {
    private static final List<String> FACE = List.of(
        "int set 3", "int count 1", "int bornOn 1", "int feed 6", "int text 0", "int force 1", "int asks 3",
        "int person 3", "int move 2", "int told 2", "int weight 2",
        "long meets 2", "long among 2", "long mine 2", "int likeliest 0", "long many 3", "int likely 1", "long mean 2",
        "long covers 2", "long near 2",
        "int needs 1", "long first 2", "int place 0", "long asked 1",
        "long host 2", "int cheap 2", "long wager 2",
        "int judge 1", "int list 2", "long comes 2", "long luck 2", "int laws 1", "int can 3",
        "int drawn 2", "int film 2", "long odds 3", "int image 0", "int back 0",
        "int sheet 3", "int cell 3", "int copy 5", "int peopleBy 4", "int taken 2");

    private FaceTest() { }

    public static void main(String[] arguments) {
        Check.watch();
        Class<?> face = TwoOnOneDay.class;
        Check.isTrue("public and final", Modifier.isPublic(face.getModifiers()) && Modifier.isFinal(face.getModifiers()));
        constants();
        methods(face);
        Constructor<?>[] constructors = face.getDeclaredConstructors();
        Check.due("constructors", constructors.length, 1);
        Check.isTrue("the constructor", Modifier.isPublic(constructors[0].getModifiers())
            && constructors[0].getParameterCount() == 0);
        Set<String> constants = new TreeSet<>();
        for (Field field : face.getDeclaredFields()) {
            if (!Modifier.isPrivate(field.getModifiers())) {
                constants.add(field.getType() + " " + field.getName());
                Check.isTrue(field + " is a constant", Modifier.isPublic(field.getModifiers())
                    && Modifier.isStatic(field.getModifiers()) && Modifier.isFinal(field.getModifiers()));
            }
        }
        Check.isTrue("constants " + constants,
            constants.equals(Set.of("int NONE", "int BAD", "int STATE", "int FULL", "long NO")));
        Class<?>[] inside = face.getDeclaredClasses();
        Check.isTrue("some twelve classes", inside.length <= 13);
        for (Class<?> one : inside) {
            int modifiers = one.getModifiers();
            Check.isTrue(one + " is static, not seen outside", Modifier.isStatic(modifiers)
                && !Modifier.isPublic(modifiers) && !Modifier.isProtected(modifiers));
            fields(one);
        }
        Check.end();
    }

    private static void constants() {
        Check.due("NONE", TwoOnOneDay.NONE, -1);
        Check.due("BAD", TwoOnOneDay.BAD, -2);
        Check.due("STATE", TwoOnOneDay.STATE, -3);
        Check.due("FULL", TwoOnOneDay.FULL, -4);
        Check.due("NO", TwoOnOneDay.NO, -4611686018427387904L);
    }

    private static void methods(Class<?> face) {
        List<String> missing = new ArrayList<>(FACE);
        Set<String> publicNames = new TreeSet<>();
        for (Method method : face.getDeclaredMethods()) {
            if (!Modifier.isPrivate(method.getModifiers())) {
                String told = method.getReturnType() + " " + method.getName() + " " + method.getParameterCount();
                Check.isTrue(told + " is of the face", missing.remove(told) && Modifier.isPublic(method.getModifiers())
                    && !Modifier.isStatic(method.getModifiers()));
                publicNames.add(method.getName());
                for (Class<?> type : method.getParameterTypes()) {
                    Check.isTrue(told + " takes ints", type == int.class);
                }
            }
        }
        Check.isTrue("missing: " + missing, missing.isEmpty());
        List<Class<?>> all = new ArrayList<>(List.of(face.getDeclaredClasses()));
        all.add(face);
        for (Class<?> one : all) {
            for (Method method : one.getDeclaredMethods()) {
                Check.isTrue(method + " bears no name of the face",
                    !Modifier.isPrivate(method.getModifiers()) || !publicNames.contains(method.getName()));
                Check.isTrue(method + " takes seven at most", method.getParameterCount() <= 7);
            }
        }
    }

    private static void fields(Class<?> one) {
        int fields = 0;
        for (Field field : one.getDeclaredFields()) {
            boolean isStatic = Modifier.isStatic(field.getModifiers());
            Check.isTrue(field + " is no static state", !isStatic || Modifier.isFinal(field.getModifiers()));
            fields += isStatic ? 0 : 1;
        }
        Check.isTrue(one + " has some twenty fields", fields <= 20);
    }
}
