import java.lang.reflect.Constructor;
import java.lang.reflect.Field;
import java.lang.reflect.Method;
import java.lang.reflect.Modifier;
import java.util.Arrays;
import java.util.Set;
import java.util.TreeSet;

/** The public face is the document's, and nothing else can be seen from outside (LANGUAGE.md, rules 1, 2, 5 and 11). */
public final class FaceTest {
    private static final Due due = new Due();
    private static final String[] METHODS = {
        "int setDistance(int)", "int addFigure(int, int, int)", "int addLimb(int, int, int, int)", "int count(int)",
        "int addTurn(int, int, int, int)", "int addShift(int, int, int, int, int)", "int removeMoves(int)",
        "long position(int, int, int, int)", "long box(int, int, int, int)", "long overlap(int, int, int, int)",
        "int crossings(int, int, int)", "int nextCrossing(int, int, int)", "int within(int, int, int)",
        "int highest(int)", "int planeFor(int, int, int)", "int hands(int)", "int busiestBeat()",
        "int activeRods(int, int)", "int addScene(int)", "int clearScenes()", "int bestScene(int)", "int bestCost()",
    };
    private static final String[] CONSTANTS = {
        "int NO_SUCH_FIGURE", "int NO_SUCH_LIMB", "int BAD_VALUE", "int FULL", "int NONE", "long NO_VALUE",
    };

    public static void main(String[] args) {
        Class<?> face = JointedShadows.class;
        due.isTrue("public and final", face.getModifiers() == (Modifier.PUBLIC | Modifier.FINAL));
        due.isTrue("no superclass", face.getSuperclass() == Object.class && face.getInterfaces().length == 0);
        constructors(face);
        methods(face);
        fields(face);
        constants();
        sizes(face);
        for (Class<?> inner : face.getDeclaredClasses()) {
            int kind = inner.getModifiers();
            due.isTrue(inner + " is static", Modifier.isStatic(kind));
            due.isTrue(inner + " is hidden", !Modifier.isPublic(kind) && !Modifier.isProtected(kind));
            sizes(inner);
        }
        due.isTrue("at most some twelve classes", face.getDeclaredClasses().length < 12);
        due.finish();
    }

    private static void sizes(Class<?> type) {
        int fields = 0;
        for (Field field : type.getDeclaredFields()) {
            fields += Modifier.isStatic(field.getModifiers()) ? 0 : 1;
        }
        due.isTrue(type + ": at most some twenty fields", fields <= 20);
        for (Method method : type.getDeclaredMethods()) {
            due.isTrue(method + ": at most seven parameters", method.getParameterCount() <= 7);
        }
    }

    private static void constructors(Class<?> face) {
        Constructor<?>[] all = face.getDeclaredConstructors();
        due.is("constructors", all.length, 1);
        due.isTrue("public", Modifier.isPublic(all[0].getModifiers()));
        due.is("parameters", all[0].getParameterCount(), 0);
    }

    private static void methods(Class<?> face) {
        Set<String> seen = new TreeSet<>();
        Set<String> publicNames = new TreeSet<>();
        Set<String> privateNames = new TreeSet<>();
        for (Method method : face.getDeclaredMethods()) {
            if (Modifier.isPrivate(method.getModifiers())) {
                privateNames.add(method.getName());
                continue;
            }
            due.isTrue(method + " is public", method.getModifiers() == Modifier.PUBLIC);
            String types = Arrays.toString(method.getParameterTypes()).replace('[', '(').replace(']', ')');
            seen.add(method.getReturnType() + " " + method.getName() + types);
            publicNames.add(method.getName());
        }
        due.isTrue("the methods are " + seen, seen.equals(new TreeSet<>(Arrays.asList(METHODS))));
        privateNames.retainAll(publicNames);
        due.isTrue("private methods with public names: " + privateNames, privateNames.isEmpty());
    }

    private static void fields(Class<?> face) {
        Set<String> seen = new TreeSet<>();
        for (Field field : face.getDeclaredFields()) {
            int kind = field.getModifiers();
            due.isTrue(field + ": static is final", !Modifier.isStatic(kind) || Modifier.isFinal(kind));
            if (!Modifier.isPrivate(kind)) {
                due.isTrue(field + " is a constant", kind == (Modifier.PUBLIC | Modifier.STATIC | Modifier.FINAL));
                seen.add(field.getType() + " " + field.getName());
            }
        }
        due.isTrue("the constants are " + seen, seen.equals(new TreeSet<>(Arrays.asList(CONSTANTS))));
    }

    private static void constants() {
        due.is("NO_SUCH_FIGURE", JointedShadows.NO_SUCH_FIGURE, -1);
        due.is("NO_SUCH_LIMB", JointedShadows.NO_SUCH_LIMB, -2);
        due.is("BAD_VALUE", JointedShadows.BAD_VALUE, -3);
        due.is("FULL", JointedShadows.FULL, -4);
        due.is("NONE", JointedShadows.NONE, -5);
        due.is("NO_VALUE", JointedShadows.NO_VALUE, Long.MIN_VALUE);
    }
}
