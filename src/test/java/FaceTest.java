import java.lang.reflect.Constructor;
import java.lang.reflect.Field;
import java.lang.reflect.Method;
import java.lang.reflect.Modifier;
import java.util.Set;
import java.util.TreeSet;

/** The members of the class: the document's public ones, and beside them private ones alone. */
public final class FaceTest {
    private static final Set<String> FACE = Set.of(
        "public static final int BlockSheet.SUM",
        "public static final int BlockSheet.MOST",
        "public static final int BlockSheet.LEAST",
        "public static final int BlockSheet.UP",
        "public BlockSheet()",
        "public boolean BlockSheet.put(int,int)",
        "public boolean BlockSheet.formula(int,int,int,int)",
        "public boolean BlockSheet.offset(int,int)",
        "public int BlockSheet.undo()",
        "public int BlockSheet.value(int)",
        "public boolean BlockSheet.broken(int)",
        "public int BlockSheet.brokenCells()",
        "public int BlockSheet.touched()",
        "public int BlockSheet.readers(int)",
        "public int BlockSheet.dependents(int)",
        "public int BlockSheet.total(int,int)",
        "public int BlockSheet.most(int,int)");

    private static int wrong = 0;

    private static void fault(String text) {
        wrong++;
        System.out.println(text);
    }

    private static Set<String> visibleMembers() {
        Set<String> found = new TreeSet<>();
        for (Field field : BlockSheet.class.getDeclaredFields()) {
            if (!Modifier.isPrivate(field.getModifiers())) {
                found.add(field.toString());
            }
        }
        for (Constructor<?> constructor : BlockSheet.class.getDeclaredConstructors()) {
            if (!Modifier.isPrivate(constructor.getModifiers())) {
                found.add(constructor.toString());
            }
        }
        for (Method method : BlockSheet.class.getDeclaredMethods()) {
            if (!Modifier.isPrivate(method.getModifiers())) {
                found.add(method.toString());
            }
        }
        return found;
    }

    private static void privateNamesDiffer() {
        for (Method method : BlockSheet.class.getDeclaredMethods()) {
            for (Method other : BlockSheet.class.getDeclaredMethods()) {
                boolean mixed = Modifier.isPrivate(method.getModifiers()) && Modifier.isPublic(other.getModifiers());
                if (mixed && method.getName().equals(other.getName())) {
                    fault("private and public: " + method.getName());
                }
            }
        }
    }

    private static void due(String name, int got, int want) {
        if (got != want) {
            fault(name + " is " + got + ", due is " + want);
        }
    }

    public static void main(String[] args) {
        Set<String> found = visibleMembers();
        for (String member : FACE) {
            if (!found.contains(member)) {
                fault("missing: " + member);
            }
        }
        for (String member : found) {
            if (!FACE.contains(member)) {
                fault("not in the document: " + member);
            }
        }
        if (!Modifier.toString(BlockSheet.class.getModifiers()).equals("public final")) {
            fault("the class is not public and final");
        }
        if (BlockSheet.class.getDeclaredClasses().length != 0) {
            fault("the class has a nested one");
        }
        privateNamesDiffer();
        due("SUM", BlockSheet.SUM, 0);
        due("MOST", BlockSheet.MOST, 1);
        due("LEAST", BlockSheet.LEAST, 2);
        due("UP", BlockSheet.UP, 3);
        System.out.println(wrong == 0 ? "the face is as due" : wrong + " faults in the face");
        if (wrong != 0) {
            System.exit(1);
        }
    }
}
