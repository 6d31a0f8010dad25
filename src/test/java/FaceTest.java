import java.io.IOException;
import java.lang.reflect.Constructor;
import java.lang.reflect.Field;
import java.lang.reflect.Method;
import java.lang.reflect.Modifier;
import java.util.Arrays;
import java.util.Map;
import java.util.Set;
import java.util.TreeMap;
import java.util.TreeSet;
import java.util.regex.Matcher;
import java.util.regex.Pattern;

/**
 * The public face is the one that the document writes out, and nothing else can be seen from outside (LANGUAGE.md,
 * rules 1, 2, 5 and 11); run from the project's directory.
 */
public final class FaceTest {
    private static final Due due = new Due();
    private static final Pattern METHOD = Pattern.compile("public (int|long) (\\w+)\\((.*)\\);");
    private static final Pattern CONSTANT = Pattern.compile("public static final (int|long) (\\w+) = (.+);");
    private static final int LINES = 31;

    public static void main(String[] args) throws IOException, IllegalAccessException {
        Class<?> face = JointedShadows.class;
        String promised = Document.javaBlock(Document.sections().get("The public face"));
        due.is("lines of the promised face", promised.split("\n").length, LINES);
        due.isTrue("public and final", face.getModifiers() == (Modifier.PUBLIC | Modifier.FINAL));
        due.isTrue("no superclass", face.getSuperclass() == Object.class && face.getInterfaces().length == 0);
        constructors(face);
        methods(face, promisedMethods(promised));
        fields(face, promisedConstants(promised));
        sizes(face);
        for (Class<?> inner : face.getDeclaredClasses()) {
            int kind = inner.getModifiers();
            due.isTrue(inner + " is static", Modifier.isStatic(kind));
            due.isTrue(inner + " is hidden", !Modifier.isPublic(kind) && !Modifier.isProtected(kind));
            sizes(inner);
            ownNames(inner, face);
        }
        due.isTrue("at most some twelve classes", face.getDeclaredClasses().length < 12);
        due.finish();
    }

    private static void sizes(Class<?> type) {
        int fields = 0;
        for (Field field : type.getDeclaredFields()) {
            fields += Modifier.isStatic(field.getModifiers()) ? 0 : 1;
        }
        due.isTrue(type + ": at most some twenty fields", fields <= 20);
        for (Method method : type.getDeclaredMethods()) {
            due.isTrue(method + ": at most seven parameters", method.getParameterCount() <= 7);
        }
    }

    /** No method of a class inside bears the name of a public one of the face. */
    private static void ownNames(Class<?> inner, Class<?> face) {
        Set<String> publicNames = new TreeSet<>();
        for (Method method : face.getMethods()) {
            publicNames.add(method.getName());
        }
        for (Method method : inner.getDeclaredMethods()) {
            due.isTrue(method + " has a name of its own", !publicNames.contains(method.getName()));
        }
    }

    private static void constructors(Class<?> face) {
        Constructor<?>[] all = face.getDeclaredConstructors();
        due.is("constructors", all.length, 1);
        due.isTrue("public", Modifier.isPublic(all[0].getModifiers()));
        due.is("parameters", all[0].getParameterCount(), 0);
    }

    /** "int addScene(int)": the types without the parameters' names. */
    private static Set<String> promisedMethods(String promised) {
        Set<String> all = new TreeSet<>();
        Matcher found = METHOD.matcher(promised);
        while (found.find()) {
            all.add(found.group(1) + " " + found.group(2) + "(" + found.group(3).replaceAll(" \\w+(?=,|$)", "") + ")");
        }
        return all;
    }

    /** "int NONE" with its value. */
    private static Map<String, Long> promisedConstants(String promised) {
        Map<String, Long> all = new TreeMap<>();
        Matcher found = CONSTANT.matcher(promised);
        while (found.find()) {
            boolean isLeast = found.group(3).equals("Long.MIN_VALUE");
            all.put(found.group(1) + " " + found.group(2), isLeast ? Long.MIN_VALUE : Long.parseLong(found.group(3)));
        }
        return all;
    }

    private static void methods(Class<?> face, Set<String> promised) {
        Set<String> seen = new TreeSet<>();
        Set<String> publicNames = new TreeSet<>();
        Set<String> privateNames = new TreeSet<>();
        for (Method method : face.getDeclaredMethods()) {
            if (Modifier.isPrivate(method.getModifiers())) {
                privateNames.add(method.getName());
                continue;
            }
            due.isTrue(method + " is public", method.getModifiers() == Modifier.PUBLIC);
            String types = Arrays.toString(method.getParameterTypes()).replace('[', '(').replace(']', ')');
            seen.add(method.getReturnType() + " " + method.getName() + types);
            publicNames.add(method.getName());
        }
        due.is("methods", seen.size(), 22);
        due.isTrue("the methods are " + seen, seen.equals(promised));
        privateNames.retainAll(publicNames);
        due.isTrue("private methods with public names: " + privateNames, privateNames.isEmpty());
    }

    private static void fields(Class<?> face, Map<String, Long> promised) throws IllegalAccessException {
        Map<String, Long> seen = new TreeMap<>();
        for (Field field : face.getDeclaredFields()) {
            int kind = field.getModifiers();
            due.isTrue(field + ": static is final", !Modifier.isStatic(kind) || Modifier.isFinal(kind));
            if (!Modifier.isPrivate(kind)) {
                due.isTrue(field + " is a constant", kind == (Modifier.PUBLIC | Modifier.STATIC | Modifier.FINAL));
                seen.put(field.getType() + " " + field.getName(), field.getLong(null));
            }
        }
        due.is("constants", seen.size(), 6);
        due.isTrue("the constants are " + seen, seen.equals(promised));
    }
}
