import java.lang.reflect.Constructor;
import java.lang.reflect.Field;
import java.lang.reflect.Method;
import java.lang.reflect.Modifier;
import java.util.Arrays;
import java.util.Set;
import java.util.TreeSet;

/** The class has the document's public face and nothing else that is not private. */
public final class FaceTest {
    private static final String[] FACE = {
        "public static final int BAD_ARG", "public static final int FULL",
        "public static final int NONE", "public static final int UNREADABLE",
        "public CsvDialect[]",
        "public int draft[int]", "public void scrap[]", "public int addRow[]", "public int field[]",
        "public int put[int, int]", "public void clear[]", "public int records[]", "public int fields[int]",
        "public int size[int, int]", "public int at[int, int, int]", "public int raw[int]", "public int unraw[]",
        "public int rawLength[]", "public int rawAt[int]", "public void rawClear[]", "public int written[int]",
        "public int write[int]", "public int read[int]", "public int sound[int]", "public int even[]",
        "public int guess[]",
    };

    public static void main(String[] args) {
        Kit.due("the face", face().toString(), new TreeSet<>(Arrays.asList(FACE)).toString());
        Kit.due("the class", Modifier.toString(CsvDialect.class.getModifiers()), "public final");
        Kit.due("nested classes", CsvDialect.class.getDeclaredClasses().length, 0);
        Kit.due("BAD_ARG", CsvDialect.BAD_ARG, -1);
        Kit.due("FULL", CsvDialect.FULL, -2);
        Kit.due("NONE", CsvDialect.NONE, -4);
        Kit.due("UNREADABLE", CsvDialect.UNREADABLE, -5);
        privateNames();
        Kit.finish();
    }

    private static Set<String> face() {
        Set<String> face = new TreeSet<>();
        for (Field f : CsvDialect.class.getDeclaredFields()) {
            if (!Modifier.isPrivate(f.getModifiers())) {
                face.add(Modifier.toString(f.getModifiers()) + " " + f.getType() + " " + f.getName());
            }
        }
        for (Constructor<?> c : CsvDialect.class.getDeclaredConstructors()) {
            face.add(Modifier.toString(c.getModifiers()) + " " + c.getName() + types(c.getParameterTypes()));
        }
        for (Method m : CsvDialect.class.getDeclaredMethods()) {
            if (!Modifier.isPrivate(m.getModifiers())) {
                face.add(Modifier.toString(m.getModifiers()) + " " + m.getReturnType() + " " + m.getName()
                    + types(m.getParameterTypes()));
            }
        }
        return face;
    }

    private static String types(Class<?>[] types) {
        return Arrays.toString(types);
    }

    private static void privateNames() {
        Set<String> open = new TreeSet<>();
        for (Method m : CsvDialect.class.getMethods()) {
            open.add(m.getName());
        }
        for (Method m : CsvDialect.class.getDeclaredMethods()) {
            if (Modifier.isPrivate(m.getModifiers())) {
                Kit.due("a public method named " + m.getName(), open.contains(m.getName()) ? 1 : 0, 0);
            }
        }
    }
}
