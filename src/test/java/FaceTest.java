import java.lang.reflect.Constructor;
import java.lang.reflect.Field;
import java.lang.reflect.Method;
import java.lang.reflect.Modifier;
import java.util.Set;
import java.util.TreeSet;

// The class shows the document's public face and nothing else.
public final class FaceTest {
    private static int wrong = 0;

    private static void due(String what, Object got, Object want) {
        if (!got.equals(want)) {
            wrong++;
            System.out.println(what + " is " + got + ", due is " + want);
        }
    }

    private static Set<String> visibleMembers() {
        Set<String> members = new TreeSet<>();
        for (Constructor<?> c : MatroidDesk.class.getDeclaredConstructors()) {
            if (!Modifier.isPrivate(c.getModifiers())) {
                members.add(c.toString());
            }
        }
        for (Method m : MatroidDesk.class.getDeclaredMethods()) {
            if (!Modifier.isPrivate(m.getModifiers())) {
                members.add(m.toString());
            }
        }
        for (Field f : MatroidDesk.class.getDeclaredFields()) {
            if (!Modifier.isPrivate(f.getModifiers())) {
                members.add(f.toString());
            }
        }
        return members;
    }

    public static void main(String[] args) {
        Set<String> face = new TreeSet<>(Set.of(
            "public MatroidDesk()",
            "public void MatroidDesk.vector(int,int)",
            "public void MatroidDesk.colour(int,int)",
            "public void MatroidDesk.weight(int,int)",
            "public int MatroidDesk.rank(int)",
            "public int MatroidDesk.closure(int)",
            "public int MatroidDesk.bases()",
            "public int MatroidDesk.polynomial(int,int)",
            "public int MatroidDesk.rainbow()",
            "public int MatroidDesk.heaviest()",
            "public int MatroidDesk.circuits()",
            "public int MatroidDesk.union()"));
        due("the face", visibleMembers(), face);
        due("the class", Modifier.toString(MatroidDesk.class.getModifiers()), "public final");
        due("the number of nested classes", MatroidDesk.class.getDeclaredClasses().length, 0);
        System.out.println(wrong == 0 ? "the face is as due" : wrong + " things are not as due");
        if (wrong != 0) {
            System.exit(1);
        }
    }
}
