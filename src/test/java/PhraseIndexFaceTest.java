import java.lang.reflect.Constructor;
import java.lang.reflect.Field;
import java.lang.reflect.Method;
import java.lang.reflect.Modifier;
import java.util.Arrays;
import java.util.TreeSet;

/** The class shows the members of the document's public face and no others. */
public final class PhraseIndexFaceTest {
    public static void main(String[] args) {
        TreeSet<String> want = new TreeSet<>(Arrays.asList(
            "public final class PhraseIndex",
            "public static final int NONE = -1",
            "public static final int FULL = -2",
            "public PhraseIndex()",
            "public int write(int,int)",
            "public boolean change(int,int,int)",
            "public boolean erase(int)",
            "public int length(int)",
            "public int ask(int)",
            "public int unask()",
            "public boolean complete()",
            "public boolean holds(int)",
            "public int matching()",
            "public int spans(int,int)",
            "public int begins(int,int,int)",
            "public int ends(int,int,int)",
            "public int having(int)",
            "public int frequency(int)",
            "public int hasTokens()"));
        TreeSet<String> got = face();
        if (!got.equals(want)) {
            System.out.println("the face is " + got);
            System.out.println("due is " + want);
            System.exit(1);
        }
        System.out.println("the face is as due");
    }

    private static TreeSet<String> face() {
        TreeSet<String> face = new TreeSet<>();
        Class<?> type = PhraseIndex.class;
        face.add(Modifier.toString(type.getModifiers()) + " class " + type.getName());
        for (Class<?> nested : type.getDeclaredClasses()) {
            face.add("nested " + nested.getName());
        }
        for (Constructor<?> constructor : type.getDeclaredConstructors()) {
            face.add(constructor.toString());
        }
        for (Method method : type.getDeclaredMethods()) {
            if (!Modifier.isPrivate(method.getModifiers())) {
                face.add(method.toString().replace("PhraseIndex.", ""));
            }
        }
        for (Field field : type.getDeclaredFields()) {
            if (!Modifier.isPrivate(field.getModifiers())) {
                face.add(field.toString().replace("PhraseIndex.", "") + " = " + constant(field));
            }
        }
        return face;
    }

    private static String constant(Field field) {
        try {
            return Modifier.isStatic(field.getModifiers()) ? String.valueOf(field.get(null)) : "of each object";
        } catch (IllegalAccessException e) {
            return "hidden";
        }
    }
}
