import java.lang.reflect.Constructor;
import java.lang.reflect.Field;
import java.lang.reflect.Method;
import java.lang.reflect.Modifier;
import java.util.Arrays;
import java.util.List;
import java.util.Set;
import java.util.TreeSet;

/** The public face is the document's, whole and with nothing beside it, and no private method has a public name. */
public final class DrcScanFace {
    private static final Set<String> FACE = new TreeSet<>(List.of("int AND", "int OR", "int LESS", "int BAD", "int FULL",
        "DrcScan()", "int add(int, int, int)", "int drop(int)", "boolean covers(int, int, int)",
        "int area(int, int, int)", "int outline(int, int, int)", "int corners(int, int, int)",
        "int thin(int, int)", "int gaps(int, int)", "int enclosure(int, int)"));

    public static void main(String[] args) {
        Class<?> c = DrcScan.class;
        Set<String> found = new TreeSet<>();
        Set<String> publicNames = new TreeSet<>();
        Set<String> privateNames = new TreeSet<>();
        for (Field f : c.getDeclaredFields()) {
            if (!Modifier.isPrivate(f.getModifiers())) {
                found.add(f.getType() + " " + f.getName());
            }
        }
        for (Constructor<?> made : c.getDeclaredConstructors()) {
            found.add("DrcScan" + parameters(made.getParameterTypes()));
        }
        for (Method m : c.getDeclaredMethods()) {
            if (Modifier.isPrivate(m.getModifiers())) {
                privateNames.add(m.getName());
            } else {
                publicNames.add(m.getName());
                found.add(m.getReturnType() + " " + m.getName() + parameters(m.getParameterTypes()));
            }
        }
        privateNames.retainAll(publicNames);
        boolean right = Modifier.isPublic(c.getModifiers()) && Modifier.isFinal(c.getModifiers())
            && c.getDeclaredClasses().length == 0 && privateNames.isEmpty() && found.equals(FACE);
        System.out.println(right ? "the face is the document's"
            : "the face is " + found + ", due is " + FACE + "; names used twice: " + privateNames);
        if (!right) {
            System.exit(1);
        }
    }

    private static String parameters(Class<?>[] types) {
        String text = Arrays.toString(types);
        return "(" + text.substring(1, text.length() - 1) + ")";
    }
}
