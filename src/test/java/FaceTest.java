import java.lang.reflect.Constructor;
import java.lang.reflect.Field;
import java.lang.reflect.Method;
import java.lang.reflect.Modifier;
import java.util.Set;
import java.util.TreeSet;

// The members of the class that others can see are those of the document's public face, no more.
public final class FaceTest {
    private static final Set<String> FACE = Set.of(
        "public static final int ProfileHmm.BAD_ARG",
        "public static final int ProfileHmm.FULL",
        "public static final int ProfileHmm.NONE",
        "public ProfileHmm(int)",
        "public int ProfileHmm.columns()",
        "public int ProfileHmm.like(int,int,int)",
        "public int ProfileHmm.pass(int,int,int)",
        "public int ProfileHmm.letter(int)",
        "public void ProfileHmm.clear()",
        "public int ProfileHmm.length()",
        "public long ProfileHmm.sum()",
        "public long ProfileHmm.matched(int,int)",
        "public long ProfileHmm.deleted(int)",
        "public long ProfileHmm.inserted(int)",
        "public int ProfileHmm.ways()",
        "public int ProfileHmm.best()",
        "public int ProfileHmm.bestStep(int)",
        "public int ProfileHmm.bestOf(int)",
        "public int ProfileHmm.ties()",
        "public int ProfileHmm.worst()",
        "public long ProfileHmm.next()");

    private static int wrong = 0;

    private static void due(String what, Object got, Object want) {
        if (!got.equals(want)) {
            wrong++;
            System.out.println(what + " is " + got + ", due is " + want);
        }
    }

    public static void main(String[] args) {
        Class<?> face = ProfileHmm.class;
        due("the class", Modifier.toString(face.getModifiers()), "public final");
        due("its parent", face.getSuperclass(), Object.class);
        due("its nested classes", face.getDeclaredClasses().length, 0);
        due("its interfaces", face.getInterfaces().length, 0);
        due("its face", visibleMembers(face), new TreeSet<>(FACE));
        privateNamesDiffer(face);
        fieldsAreAllowed(face);
        due("BAD_ARG", ProfileHmm.BAD_ARG, -1);
        due("FULL", ProfileHmm.FULL, -2);
        due("NONE", ProfileHmm.NONE, -4);
        System.out.println(wrong == 0 ? "the face is as due" : wrong + " things are not as due");
        if (wrong != 0) {
            System.exit(1);
        }
    }

    private static Set<String> visibleMembers(Class<?> face) {
        Set<String> seen = new TreeSet<>();
        for (Field field : face.getDeclaredFields()) {
            if (!Modifier.isPrivate(field.getModifiers())) {
                seen.add(field.toString());
            }
        }
        for (Constructor<?> made : face.getDeclaredConstructors()) {
            seen.add(made.toString());
        }
        for (Method method : face.getDeclaredMethods()) {
            if (!Modifier.isPrivate(method.getModifiers())) {
                seen.add(method.toString());
            }
        }
        return seen;
    }

    private static void privateNamesDiffer(Class<?> face) {
        Set<String> open = new TreeSet<>();
        for (Method method : face.getMethods()) {
            open.add(method.getName());
        }
        for (Method method : face.getDeclaredMethods()) {
            if (Modifier.isPrivate(method.getModifiers())) {
                due("private " + method.getName() + " among the public names",
                    open.contains(method.getName()), false);
                due("too many parameters of " + method.getName(),
                    method.getParameterCount() > 7, false);
            }
        }
    }

    private static void fieldsAreAllowed(Class<?> face) {
        for (Field field : face.getDeclaredFields()) {
            Class<?> type = field.getType();
            boolean fixed = Modifier.isStatic(field.getModifiers());
            boolean changing = fixed && !Modifier.isFinal(field.getModifiers());
            due("changing static field " + field.getName(), changing, false);
            Class<?> plain = type.isArray() && !fixed ? type.getComponentType() : type;
            boolean allowed = plain.isPrimitive() && plain != float.class && plain != double.class;
            due("allowed type of " + field.getName(), allowed, true);
        }
    }
}
