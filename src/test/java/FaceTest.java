import java.lang.reflect.Constructor;
import java.lang.reflect.Field;
import java.lang.reflect.Method;
import java.lang.reflect.Modifier;
import java.util.Set;
import java.util.TreeSet;

/** The class has the public face of the document, and nothing else that can be seen from outside. */
public final class FaceTest {
    public static void main(String[] args) {
        Class<?> type = CirculationRange.class;
        Set<String> seen = new TreeSet<>();
        for (Field field : type.getDeclaredFields()) {
            if (!Modifier.isPrivate(field.getModifiers())) {
                seen.add(field.toString());
            }
        }
        for (Method method : type.getDeclaredMethods()) {
            if (!Modifier.isPrivate(method.getModifiers())) {
                seen.add(method.toString());
            }
        }
        for (Constructor<?> constructor : type.getDeclaredConstructors()) {
            seen.add(constructor.toString());
        }
        Check.due("the public face", seen.toString(), documented().toString());
        Check.due("the class's modifiers", Modifier.toString(type.getModifiers()), "public final");
        Check.due("nested classes", type.getDeclaredClasses().length, 0);
        constants();
        Check.end();
    }

    private static void constants() {
        Check.due("BAD_VERTEX", CirculationRange.BAD_VERTEX, -1);
        Check.due("BAD_AMOUNT", CirculationRange.BAD_AMOUNT, -2);
        Check.due("FULL", CirculationRange.FULL, -3);
        Check.due("NO_ARC", CirculationRange.NO_ARC, -4);
        Check.due("NONE", CirculationRange.NONE, -5);
    }

    private static Set<String> documented() {
        Set<String> face = new TreeSet<>();
        for (String constant : new String[] {"BAD_VERTEX", "BAD_AMOUNT", "FULL", "NO_ARC", "NONE"}) {
            face.add("public static final int CirculationRange." + constant);
        }
        face.add("public CirculationRange()");
        face.add("public boolean CirculationRange.possible()");
        for (String method : new String[] {
                "arc(int,int,int)", "bounds(int,int,int)", "reverse(int)", "dropLast()", "lack()", "lackingSet()",
                "least(int)", "most(int)", "through(int,int)", "arcs()"}) {
            face.add("public int CirculationRange." + method);
        }
        return face;
    }
}
