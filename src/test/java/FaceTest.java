import java.lang.reflect.Constructor;
import java.lang.reflect.Field;
import java.lang.reflect.Method;
import java.lang.reflect.Modifier;
import java.util.Arrays;
import java.util.Set;
import java.util.TreeSet;

/** "The public face": the members, and no other ones; and what LANGUAGE.md says of classes and fields. */
public final class FaceTest {
    private static final String[] METHODS = {
        "public int feed(int,long) throws java.lang.IllegalArgumentException",
        "public int wipe()",
        "public int compile()",
        "public int fault()",
        "public int place()",
        "public int input()",
        "public int run(int) throws java.lang.IllegalArgumentException",
        "public int where()",
        "public int written()",
        "public long text(int)",
        "public int told(int) throws java.lang.IllegalArgumentException",
    };
    private static final Set<String> STATIC_TYPES =
        Set.of("int", "long", "boolean", "char", "String", "int[]", "long[]", "char[]", "byte[]");
    private static final int MOST_CLASSES = 12;
    private static final int MOST_FIELDS = 20;
    private static final int MOST_PARAMETERS = 7;

    public static void main(String[] args) throws ReflectiveOperationException {
        theClass();
        theConstructor();
        theConstant();
        theMethods();
        noOtherMember();
        classesInside();
        Check.finish();
    }

    private static void holds(String what, boolean fine) {
        Check.due(what, fine ? 1 : 0, 1);
    }

    private static void theClass() {
        int modifiers = TaggedPascal.class.getModifiers();
        Check.due("class", Modifier.toString(modifiers), "public final");
        Check.due("name without a package", TaggedPascal.class.getName(), "TaggedPascal");
        holds("no class above but Object", TaggedPascal.class.getSuperclass() == Object.class);
        Check.due("interfaces", TaggedPascal.class.getInterfaces().length, 0);
    }

    private static void theConstructor() {
        Constructor<?>[] all = TaggedPascal.class.getDeclaredConstructors();
        Check.due("constructors", all.length, 1);
        Check.due("constructor", all[0].toString(), "public TaggedPascal()");
    }

    private static void theConstant() throws ReflectiveOperationException {
        Field[] all = TaggedPascal.class.getFields();
        Check.due("public fields", all.length, 1);
        Check.due("constant", all[0].toString(), "public static final int TaggedPascal.NONE");
        Check.due("NONE", all[0].getInt(null), -1);
    }

    private static void theMethods() {
        Set<String> due = new TreeSet<>(Arrays.asList(METHODS));
        Set<String> found = new TreeSet<>();
        for (Method method : TaggedPascal.class.getDeclaredMethods()) {
            if (!Modifier.isPrivate(method.getModifiers())) {
                found.add(method.toString().replace("TaggedPascal.", ""));
            }
        }
        Check.due("methods", found.toString(), due.toString());
    }

    /** Rule 1: what is not of the face is private, and bears no name of the face. */
    private static void noOtherMember() {
        for (Field field : TaggedPascal.class.getDeclaredFields()) {
            boolean ofTheFace = field.getName().equals("NONE");
            holds(field + " is private", ofTheFace || Modifier.isPrivate(field.getModifiers()));
        }
        Set<String> names = new TreeSet<>();
        for (Method method : TaggedPascal.class.getMethods()) {
            names.add(method.getName());
        }
        for (Method method : TaggedPascal.class.getDeclaredMethods()) {
            boolean isPublic = Modifier.isPublic(method.getModifiers());
            holds(method + " bears its own name", isPublic || !names.contains(method.getName()));
        }
    }

    /** Rules 1, 2, 5 and 11. */
    private static void classesInside() {
        Class<?>[] inside = TaggedPascal.class.getDeclaredClasses();
        holds("classes: " + (inside.length + 1), inside.length + 1 <= MOST_CLASSES);
        fieldsAndParameters(TaggedPascal.class);
        for (Class<?> one : inside) {
            int modifiers = one.getModifiers();
            holds(one + " is static", Modifier.isStatic(modifiers));
            holds(one + " is not open", !Modifier.isPublic(modifiers) && !Modifier.isProtected(modifiers));
            fieldsAndParameters(one);
        }
    }

    private static void fieldsAndParameters(Class<?> one) {
        int own = 0;
        for (Field field : one.getDeclaredFields()) {
            if (Modifier.isStatic(field.getModifiers())) {
                holds(field + " is final", Modifier.isFinal(field.getModifiers()));
                holds(field + " is of a type of constants", STATIC_TYPES.contains(field.getType().getSimpleName()));
            } else {
                own++;
            }
        }
        holds(one + " has " + own + " fields", own <= MOST_FIELDS);
        for (Method method : one.getDeclaredMethods()) {
            holds(method + " takes few parameters", method.getParameterCount() <= MOST_PARAMETERS);
        }
    }
}
