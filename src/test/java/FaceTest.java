import java.lang.reflect.Constructor;
import java.lang.reflect.Field;
import java.lang.reflect.Member;
import java.lang.reflect.Method;
import java.lang.reflect.Modifier;
import java.util.Arrays;
import java.util.Set;
import java.util.TreeSet;

/** The public face is the document's and no more (LANGUAGE.md, rule 1). */
public final class FaceTest {
    private static final Check CHECK = new Check("FaceTest");

    public static void main(String[] args) {
        CHECK.due("NONE", BasisWalk.NONE, -1);
        CHECK.due("public final", BasisWalk.class.getModifiers(), Modifier.PUBLIC | Modifier.FINAL);
        membersAre();
        noNameTwice();
        CHECK.finish();
    }

    private static void membersAre() {
        Set<String> seen = new TreeSet<>();
        for (Method m : BasisWalk.class.getDeclaredMethods()) {
            if (isSeen(m)) {
                seen.add(m.getReturnType() + " " + m.getName() + Arrays.toString(m.getParameterTypes()));
            }
        }
        for (Constructor<?> c : BasisWalk.class.getDeclaredConstructors()) {
            if (isSeen(c)) {
                seen.add("new" + Arrays.toString(c.getParameterTypes()));
            }
        }
        for (Field f : BasisWalk.class.getDeclaredFields()) {
            if (isSeen(f)) {
                seen.add(Modifier.toString(f.getModifiers()) + " " + f.getType() + " " + f.getName());
            }
        }
        Set<String> wanted = new TreeSet<>(Set.of(
                "public static final int NONE", "new[]",
                "boolean begin[int, int, int, int]", "boolean put[int, int, int, int]",
                "int columns[int]", "int rank[int, int]", "int count[int, int]",
                "int member[int, int, int]", "long tutte[int, int, int]",
                "int sign[int, int]", "int below[int, int]"));
        CHECK.due("the face " + seen, seen.equals(wanted), true);
    }

    private static boolean isSeen(Member m) {
        return !Modifier.isPrivate(m.getModifiers()) && !m.isSynthetic();
    }

    private static void noNameTwice() {
        Set<String> names = new TreeSet<>();
        for (Method m : BasisWalk.class.getDeclaredMethods()) {
            if (Modifier.isPublic(m.getModifiers())) {
                names.add(m.getName());
            }
        }
        for (Method m : BasisWalk.class.getDeclaredMethods()) {
            CHECK.due("private " + m.getName(),
                    Modifier.isPrivate(m.getModifiers()) && names.contains(m.getName()), false);
        }
        for (Class<?> inside : BasisWalk.class.getDeclaredClasses()) {
            for (Method m : inside.getDeclaredMethods()) {
                CHECK.due(inside.getName() + "." + m.getName(), names.contains(m.getName()), false);
            }
        }
    }
}
