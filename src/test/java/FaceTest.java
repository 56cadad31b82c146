import java.lang.reflect.Constructor;
import java.lang.reflect.Field;
import java.lang.reflect.Method;
import java.lang.reflect.Modifier;
import java.util.TreeSet;

/** The public face: its members, and no other that can be seen from outside. */
final class FaceTest {
    public static void main(String[] args) {
        Probe probe = new Probe("FaceTest");
        TreeSet<String> members = new TreeSet<>();
        for (Method method : ScriptFront.class.getDeclaredMethods()) {
            if (!Modifier.isPrivate(method.getModifiers())) {
                members.add(method.toGenericString());
            }
        }
        for (Constructor<?> constructor : ScriptFront.class.getDeclaredConstructors()) {
            members.add(constructor.toGenericString());
        }
        for (Field field : ScriptFront.class.getDeclaredFields()) {
            if (!Modifier.isPrivate(field.getModifiers())) {
                members.add(field.toGenericString());
            }
        }
        TreeSet<String> due = new TreeSet<>();
        due.add("public ScriptFront()");
        due.add("public boolean ScriptFront.again()");
        due.add("public boolean ScriptFront.type(long,int)");
        due.add("public int ScriptFront.fault(int)");
        due.add("public int ScriptFront.many(int)");
        due.add("public int ScriptFront.node(int,int) throws java.lang.IndexOutOfBoundsException");
        due.add("public int ScriptFront.parse() throws java.lang.IllegalArgumentException");
        due.add("public int ScriptFront.printed(int)");
        due.add("public static final int ScriptFront.NONE");
        probe.due("members", members, due);
        probe.due("modifiers", Modifier.toString(ScriptFront.class.getModifiers()), "public final");
        probe.end();
    }
}
