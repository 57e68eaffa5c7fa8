import java.lang.reflect.Constructor;
import java.lang.reflect.Field;
import java.lang.reflect.Method;
import java.lang.reflect.Modifier;
import java.util.Set;
import java.util.TreeSet;

/** The class shows the document's public face and nothing else, as LANGUAGE.md asks (rules 1, 2, 5 and 10). */
public final class FaceTest {
    private static final Set<String> FACE = Set.of(
        "public static final int BAD", "public static final int NONE",
        "public static final int FULL", "public static final int CIRCLE",
        "public CoffmanGraham(int)",
        "public int addTask()", "public int removeTask(int)",
        "public int addOrder(int,int)", "public int removeOrder(int,int)",
        "public int tasks()", "public boolean after(int,int)", "public int height(int)",
        "public int superfluous()", "public boolean inTrees()",
        "public int shortest(int)", "public int without(int)");
    private static int wrong = 0;

    private static void must(boolean holds, String what) {
        if (!holds) {
            wrong++;
            System.out.println("not so: " + what);
        }
    }

    private static String bare(String member) {
        return member.replace("CoffmanGraham.", "");
    }

    private static boolean isPlain(Class<?> type) {
        Class<?> item = type.isArray() ? type.getComponentType() : type;
        return item.isPrimitive() && item != float.class && item != double.class;
    }

    private static boolean isConstant(Field f) {
        return Modifier.isFinal(f.getModifiers()) && (f.getType() == int.class || f.getType() == long.class);
    }

    public static void main(String[] args) {
        Class<?> type = CoffmanGraham.class;
        Set<String> shown = new TreeSet<>();
        Set<String> shownNames = new TreeSet<>();
        must(Modifier.isPublic(type.getModifiers()) && Modifier.isFinal(type.getModifiers()), "public and final");
        must(type.getDeclaredClasses().length == 0, "no nested class");
        for (Field f : type.getDeclaredFields()) {
            if (!Modifier.isPrivate(f.getModifiers())) {
                shown.add(bare(f.toString()));
            }
            must(isPlain(f.getType()), "plain type of " + f);
            must(!Modifier.isStatic(f.getModifiers()) || isConstant(f), "static only as a constant: " + f);
        }
        for (Constructor<?> c : type.getDeclaredConstructors()) {
            if (!Modifier.isPrivate(c.getModifiers())) {
                shown.add(c.toString());
            }
        }
        for (Method f : type.getDeclaredMethods()) {
            if (!Modifier.isPrivate(f.getModifiers())) {
                shown.add(bare(f.toString()));
                shownNames.add(f.getName());
            }
            must(f.getParameterCount() <= 7, "at most seven parameters: " + f);
        }
        for (Method f : type.getDeclaredMethods()) {
            must(!Modifier.isPrivate(f.getModifiers()) || !shownNames.contains(f.getName()), "own name of " + f);
        }
        must(shown.equals(FACE), "the face is the document's; it is " + shown);
        System.out.println(wrong == 0 ? "the face is as due" : wrong + " faults in the face");
        if (wrong != 0) {
            System.exit(1);
        }
    }
}
