import java.lang.reflect.Constructor;
import java.lang.reflect.Field;
import java.lang.reflect.Method;
import java.lang.reflect.Modifier;
import java.util.Set;
import java.util.TreeSet;

/** The public face is the document's, to the letter, and nothing else of the class is seen. */
public final class FaceTest {
    private static int wrong = 0;

    public static void main(String[] args) {
        Class<?> face = ElasticKernel.class;
        due("the class is public and final", Modifier.toString(face.getModifiers()), "public final");
        due("the members", membersOf(face).toString(), new TreeSet<>(Set.of(
                "public static final int NONE",
                "public ElasticKernel()",
                "public int add(int,int,int,int,int)",
                "public boolean leave(int)",
                "public boolean load(int)",
                "public boolean use(int,int)",
                "public int tick(int) throws java.lang.IllegalArgumentException",
                "public int task(int,int)",
                "public int rate(int,int,int)",
                "public int total(int,int)",
                "public int state(int)")).toString());
        for (Class<?> inner : face.getDeclaredClasses()) {
            due(inner.getSimpleName() + " is private or package-visible", "" + isSeen(inner.getModifiers()), "false");
            due(inner.getSimpleName() + " is static", "" + Modifier.isStatic(inner.getModifiers()), "true");
            due(inner.getSimpleName() + "'s methods with public names", namesTwice(face, inner).toString(), "[]");
        }
        due("private methods with public names", namesTwice(face, face).toString(), "[]");
        System.out.println(wrong == 0 ? "the face is as due" : wrong + " things are not as due");
        if (wrong != 0) {
            System.exit(1);
        }
    }

    private static Set<String> membersOf(Class<?> face) {
        Set<String> members = new TreeSet<>();
        for (Field field : face.getDeclaredFields()) {
            if (!Modifier.isPrivate(field.getModifiers())) {
                members.add(Modifier.toString(field.getModifiers()) + " " + field.getType() + " " + field.getName());
            }
        }
        for (Constructor<?> constructor : face.getDeclaredConstructors()) {
            if (!Modifier.isPrivate(constructor.getModifiers())) {
                members.add(constructor.toString());
            }
        }
        for (Method method : face.getDeclaredMethods()) {
            if (!Modifier.isPrivate(method.getModifiers())) {
                members.add(method.toString().replace("ElasticKernel.", ""));
            }
        }
        return members;
    }

    /** LANGUAGE.md, rule 1, read strictly: of the classes inside too. */
    private static Set<String> namesTwice(Class<?> face, Class<?> owner) {
        Set<String> names = new TreeSet<>();
        for (Method method : owner.getDeclaredMethods()) {
            if (owner != face || Modifier.isPrivate(method.getModifiers())) {
                names.add(method.getName());
            }
        }
        Set<String> seen = new TreeSet<>();
        for (Method method : face.getDeclaredMethods()) {
            if (Modifier.isPublic(method.getModifiers())) {
                seen.add(method.getName());
            }
        }
        names.retainAll(seen);
        return names;
    }

    private static boolean isSeen(int modifiers) {
        return Modifier.isPublic(modifiers) || Modifier.isProtected(modifiers);
    }

    private static void due(String what, String got, String want) {
        if (!got.equals(want)) {
            wrong++;
            System.out.println(what + ": " + got + ", due is " + want);
        }
    }
}
