import java.lang.reflect.Constructor;
import java.lang.reflect.Field;
import java.lang.reflect.Method;
import java.lang.reflect.Modifier;
import java.util.Arrays;
import java.util.Set;
import java.util.TreeSet;

/** The public face of the class: what the document lists, and nothing beside it. */
public final class FaceTest {
    private static final Check CHECK = new Check();
    private static final String[] METHODS = {
        "int open(int)", "int shut(int)", "int cord(int, boolean, int)", "int join(int, int, int)",
        "int keys(int, int)", "int draft(int)", "int guestOpens(int, int)", "int guestShuts(int, int)",
        "int walk(int, int)", "int append(int)", "int clear()", "int fault()", "int run()", "int why(int)",
        "int door(int, int)", "int hall(int, int)", "int guest(int, int)", "int whyNot(int)", "int together(int)",
        "int can(int)", "int deeds(int, int, int)", "int count(int)", "double tightness()", "int ifOpened(int, int)",
        "int undo()", "int save()", "int restore()"};

    public static void main(String[] args) {
        constants();
        kind();
        methods();
        fields();
        classesInside();
        CHECK.end("FaceTest");
    }

    private static void constants() {
        CHECK.same("INVALID_ARGUMENT", CordDoors.INVALID_ARGUMENT, -1);
        CHECK.same("NOT_POSSIBLE", CordDoors.NOT_POSSIBLE, -2);
        CHECK.same("LIMIT_REACHED", CordDoors.LIMIT_REACHED, -3);
        CHECK.same("NOT_FOUND", CordDoors.NOT_FOUND, -4);
    }

    private static void kind() {
        int modifiers = CordDoors.class.getModifiers();
        CHECK.holds("public and final", Modifier.isPublic(modifiers) && Modifier.isFinal(modifiers));
        CHECK.holds("no package", CordDoors.class.getPackageName().isEmpty());
        Constructor<?>[] constructors = CordDoors.class.getDeclaredConstructors();
        CHECK.same("constructors", constructors.length, 1);
        CHECK.same("its parameters", constructors[0].getParameterCount(), 0);
        CHECK.holds("it is public", Modifier.isPublic(constructors[0].getModifiers()));
    }

    private static void methods() {
        Set<String> seen = new TreeSet<>();
        Set<String> publicNames = new TreeSet<>();
        Set<String> privateNames = new TreeSet<>();
        for (Method method : CordDoors.class.getDeclaredMethods()) {
            if (Modifier.isPrivate(method.getModifiers())) {
                privateNames.add(method.getName());
                continue;
            }
            CHECK.holds(method.getName() + " is public, not static",
                Modifier.isPublic(method.getModifiers()) && !Modifier.isStatic(method.getModifiers()));
            String parameters = Arrays.toString(method.getParameterTypes()).replace("[", "(").replace("]", ")");
            seen.add(method.getReturnType() + " " + method.getName() + parameters);
            publicNames.add(method.getName());
        }
        CHECK.holds("the methods are those of the document: " + seen,
            seen.equals(new TreeSet<>(Arrays.asList(METHODS))));
        privateNames.retainAll(publicNames);
        CHECK.holds("no private method bears the name of a public one: " + privateNames, privateNames.isEmpty());
    }

    private static void fields() {
        Set<String> seen = new TreeSet<>();
        for (Field field : CordDoors.class.getDeclaredFields()) {
            if (!Modifier.isPrivate(field.getModifiers())) {
                seen.add(field.getName());
            }
            CHECK.holds(field.getName() + " is final, if static",
                !Modifier.isStatic(field.getModifiers()) || Modifier.isFinal(field.getModifiers()));
        }
        CHECK.holds("the fields are the constants: " + seen,
            seen.equals(new TreeSet<>(Set.of("INVALID_ARGUMENT", "NOT_POSSIBLE", "LIMIT_REACHED", "NOT_FOUND"))));
    }

    private static void classesInside() {
        Class<?>[] inside = CordDoors.class.getDeclaredClasses();
        CHECK.holds("at most twelve classes", inside.length + 1 <= 12);
        for (Class<?> one : inside) {
            int modifiers = one.getModifiers();
            CHECK.holds(one + " is static", Modifier.isStatic(modifiers));
            CHECK.holds(one + " is not public", !Modifier.isPublic(modifiers) && !Modifier.isProtected(modifiers));
            int fields = 0;
            for (Field field : one.getDeclaredFields()) {
                fields += Modifier.isStatic(field.getModifiers()) ? 0 : 1;
            }
            CHECK.holds(one + " has at most twenty fields", fields <= 20);
        }
    }
}
