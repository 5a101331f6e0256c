import java.lang.reflect.Constructor;
import java.lang.reflect.Field;
import java.lang.reflect.Method;
import java.lang.reflect.Modifier;
import java.util.Arrays;
import java.util.TreeSet;

/** The public face is that of the document, and nothing else of the class can be seen. */
public final class FaceTest {
    public static void main(String[] args) {
        Probe probe = new Probe("face");
        TreeSet<String> methods = new TreeSet<>();
        for (Method m : PatchStore.class.getDeclaredMethods()) {
            if (!Modifier.isPrivate(m.getModifiers()) && !m.isSynthetic()) {
                methods.add(m.toString().replace("PatchStore.", ""));
            }
        }
        probe.due("methods", methods, new TreeSet<>(Arrays.asList(
                "public boolean write(long)", "public int put(int)", "public int patch(int)",
                "public boolean delete(int)", "public int query(int)", "public int length(int)",
                "public int letter(int,int)", "public int results()", "public int shown(int,int)",
                "public int draft()", "public int depth(int)", "public int count(int)",
                "public void commit()", "public void crash()")));
        for (Constructor<?> c : PatchStore.class.getDeclaredConstructors()) {
            probe.due("constructor", c.toString(), "public PatchStore(int,int)");
        }
        for (Field f : PatchStore.class.getDeclaredFields()) {
            probe.due(f + " is private", Modifier.isPrivate(f.getModifiers()), true);
            if (Modifier.isStatic(f.getModifiers())) {
                probe.due(f + " is final", Modifier.isFinal(f.getModifiers()), true);
            }
        }
        probe.due("the class is final", Modifier.isFinal(PatchStore.class.getModifiers()), true);
        for (Class<?> c : PatchStore.class.getDeclaredClasses()) {
            probe.due(c + " is static", Modifier.isStatic(c.getModifiers()), true);
            probe.due(c + " is public", Modifier.isPublic(c.getModifiers()), false);
        }
        Probe.end();
    }
}
