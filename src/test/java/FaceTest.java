import java.lang.reflect.Constructor;
import java.lang.reflect.Field;
import java.lang.reflect.Method;
import java.lang.reflect.Modifier;
import java.util.Set;
import java.util.TreeSet;

/** The class shows just the face of the document: no member more, none less. */
public final class FaceTest {
    private static int wrong = 0;

    private static void same(String what, Object got, Object want) {
        if (!got.equals(want)) {
            wrong++;
            System.out.println(what + " is " + got + ", due is " + want);
        }
    }

    public static void main(String[] args) throws Exception {
        Class<?> face = GraphCatalogue.class;
        same("the class", Modifier.toString(face.getModifiers()), "public final");
        same("the class above", face.getSuperclass(), Object.class);
        same("interfaces", face.getInterfaces().length, 0);
        same("nested classes", face.getDeclaredClasses().length, 0);

        Set<String> shown = new TreeSet<>();
        for (Constructor<?> c : face.getDeclaredConstructors()) {
            if (!Modifier.isPrivate(c.getModifiers())) shown.add(c.toString());
        }
        for (Method m : face.getDeclaredMethods()) {
            if (!Modifier.isPrivate(m.getModifiers())) shown.add(m.toString());
        }
        for (Field f : face.getDeclaredFields()) {
            if (!Modifier.isPrivate(f.getModifiers())) shown.add(f.toString());
        }
        same("the face", shown, new TreeSet<>(Set.of(
            "public static final int GraphCatalogue.BAD",
            "public GraphCatalogue(int)",
            "public int GraphCatalogue.leader(int)",
            "public int GraphCatalogue.symmetries(int)",
            "public int GraphCatalogue.alike(int)",
            "public int GraphCatalogue.classes()",
            "public int GraphCatalogue.classesWith(int)",
            "public int GraphCatalogue.entry(int)",
            "public int GraphCatalogue.connected()",
            "public int GraphCatalogue.extensions(int)",
            "public boolean GraphCatalogue.contains(int,int)",
            "public int GraphCatalogue.selfOpposite()",
            "public int GraphCatalogue.points()")));
        same("BAD", face.getField("BAD").getInt(null), -1);

        System.out.println(wrong == 0 ? "the face is as due" : wrong + " faults in the face");
        if (wrong != 0) System.exit(1);
    }
}
