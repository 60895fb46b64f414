import java.lang.reflect.Constructor;
import java.lang.reflect.Field;
import java.lang.reflect.Method;
import java.lang.reflect.Modifier;
import java.util.Set;
import java.util.TreeSet;

/** The class has the document's constants, constructor and methods, and shows no others. */
public final class FaceTest {
    public static void main(String[] args) {
        Check check = new Check();
        check.due("BAD_ARG", RowOrders.BAD_ARG, -1000);
        check.due("NONE", RowOrders.NONE, -1001);
        check.due("public final", RowOrders.class.getModifiers(), Modifier.PUBLIC | Modifier.FINAL);
        Set<String> face = new TreeSet<>(Set.of(
                "public static final int RowOrders.BAD_ARG",
                "public static final int RowOrders.NONE",
                "public RowOrders(int)",
                "public int RowOrders.put(int,int)",
                "public int RowOrders.exchange(int,int,int)",
                "public int RowOrders.invert(int)",
                "public int RowOrders.reverse(int)",
                "public int RowOrders.multiply()",
                "public int RowOrders.meet()",
                "public int RowOrders.join()",
                "public int RowOrders.code(int)",
                "public int RowOrders.inversions(int)",
                "public int RowOrders.rank(int)",
                "public int RowOrders.permutation(int)",
                "public int RowOrders.below(int)",
                "public int RowOrders.interval(int)",
                "public int RowOrders.ways(int)",
                "public int RowOrders.sign(int)",
                "public int RowOrders.steps(int,int)"));
        for (String shown : shownMembers()) {
            check.due("in the document: " + shown, face.remove(shown) ? 1 : 0, 1);
        }
        for (String missing : face) {
            check.due("in the class: " + missing, 0, 1);
        }
        check.end();
    }

    private static Set<String> shownMembers() {
        Set<String> shown = new TreeSet<>();
        for (Field f : RowOrders.class.getDeclaredFields()) {
            if (!Modifier.isPrivate(f.getModifiers())) {
                shown.add(f.toString());
            }
        }
        for (Constructor<?> c : RowOrders.class.getDeclaredConstructors()) {
            shown.add(c.toString());
        }
        for (Method m : RowOrders.class.getDeclaredMethods()) {
            if (!Modifier.isPrivate(m.getModifiers())) {
                shown.add(m.toString());
            }
        }
        return shown;
    }
}
