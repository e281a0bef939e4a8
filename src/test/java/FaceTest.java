import java.lang.reflect.Constructor;
import java.lang.reflect.Field;
import java.lang.reflect.Method;
import java.lang.reflect.Modifier;
import java.util.Set;
import java.util.TreeSet;

/** The class shows the members of the document's public face and no other. */
public final class FaceTest {
    private static final Set<String> FACE = Set.of(
        "public static final int FactorGraph.BAD_VARIABLE",
        "public static final int FactorGraph.BAD_FACTOR",
        "public static final int FactorGraph.BAD_WEIGHT",
        "public static final int FactorGraph.FULL",
        "public static final int FactorGraph.BAD_VALUE",
        "public FactorGraph()",
        "public int FactorGraph.factor(int,int,int)",
        "public int FactorGraph.weight(int,int,int)",
        "public int FactorGraph.evidence(int,int)",
        "public int FactorGraph.drop()",
        "public long FactorGraph.total()",
        "public long FactorGraph.share(int)",
        "public long FactorGraph.alike(int,int)",
        "public long FactorGraph.best()",
        "public int FactorGraph.bestAssignment()",
        "public int FactorGraph.possible()",
        "public boolean FactorGraph.independent(int,int)");

    public static void main(String[] args) {
        Set<String> shown = new TreeSet<>();
        for (Field field : FactorGraph.class.getDeclaredFields()) {
            if (!Modifier.isPrivate(field.getModifiers())) {
                shown.add(field.toString());
            }
        }
        for (Constructor<?> constructor : FactorGraph.class.getDeclaredConstructors()) {
            if (!Modifier.isPrivate(constructor.getModifiers())) {
                shown.add(constructor.toString());
            }
        }
        for (Method method : FactorGraph.class.getDeclaredMethods()) {
            if (!Modifier.isPrivate(method.getModifiers())) {
                shown.add(method.toString());
            }
        }
        Check check = new Check();
        for (String member : FACE) {
            check.due("is there: " + member, shown.contains(member), true);
        }
        for (String member : shown) {
            check.due("is in the document: " + member, FACE.contains(member), true);
        }
        int modifiers = FactorGraph.class.getModifiers();
        check.due("the class is public and final", modifiers, Modifier.PUBLIC | Modifier.FINAL);
        check.end();
    }
}
