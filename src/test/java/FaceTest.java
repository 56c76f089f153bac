import java.lang.reflect.Constructor;
import java.lang.reflect.Field;
import java.lang.reflect.Method;
import java.lang.reflect.Modifier;
import java.util.Arrays;
import java.util.TreeSet;

/** The public face: the class, its constructor and its eight methods, and no other visible member. */
public final class FaceTest {
    public static void main(String[] args) {
        Class<?> face = CausalCheck.class;
        Due.same("modifiers", Modifier.toString(face.getModifiers()), "public final");
        TreeSet<String> visible = new TreeSet<>();
        for (Constructor<?> c : face.getDeclaredConstructors()) {
            visible.add(c.toString());
        }
        for (Method m : face.getDeclaredMethods()) {
            if (!Modifier.isPrivate(m.getModifiers())) {
                visible.add(m.toString());
            }
        }
        for (Field f : face.getDeclaredFields()) {
            if (!Modifier.isPrivate(f.getModifiers())) {
                visible.add(f.toString());
            }
        }
        TreeSet<String> due = new TreeSet<>(Arrays.asList(
                "public CausalCheck()",
                "public int CausalCheck.write(int,int)",
                "public int CausalCheck.read(int,int,int)",
                "public int CausalCheck.back()",
                "public int CausalCheck.before(int,int)",
                "public int CausalCheck.weak(int)",
                "public int CausalCheck.strong(int)",
                "public int CausalCheck.sound()",
                "public int CausalCheck.choices(int,int)"));
        Due.same("visible members", visible.toString(), due.toString());
        Due.is("nested classes", face.getDeclaredClasses().length, 0);
        Due.end();
    }
}
