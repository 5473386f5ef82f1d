import java.lang.reflect.Constructor;
import java.lang.reflect.Field;
import java.lang.reflect.Method;
import java.lang.reflect.Modifier;
import java.util.Arrays;
import java.util.Set;
import java.util.TreeSet;

/** The public face is the document's, and nothing beside it can be seen. */
public final class FaceTest {
    public static void main(String[] args) {
        Check.due("the class", 1, Modifier.toString(CycleCutter.class.getModifiers())
                .equals("public final") ? 1 : 0);
        Check.due("the members", due().toString(), visible().toString());
        for (Class<?> inside : CycleCutter.class.getDeclaredClasses()) {
            int modifiers = inside.getModifiers();
            boolean hidden = !Modifier.isPublic(modifiers) && !Modifier.isProtected(modifiers);
            Check.due(inside + " is static and not public", 1,
                    hidden && Modifier.isStatic(modifiers) ? 1 : 0);
        }
        Check.end();
    }

    private static Set<String> due() {
        String out = " throws java.lang.IndexOutOfBoundsException";
        String state = ",java.lang.IllegalStateException";
        String argument = " throws java.lang.IllegalArgumentException";
        return new TreeSet<>(Arrays.asList(
                "public static final int CycleCutter.NONE",
                "public CycleCutter()",
                "public int CycleCutter.gate(int)" + argument,
                "public int CycleCutter.feed(int,int,boolean)" + out + state,
                "public int CycleCutter.output(int)" + out,
                "public int CycleCutter.clear()",
                "public int CycleCutter.lay()",
                "public int CycleCutter.run(int,int)" + out,
                "public int CycleCutter.way(int,int)" + out,
                "public int CycleCutter.at(int)",
                "public int CycleCutter.size(int,boolean)" + out,
                "public int CycleCutter.known(int)" + out,
                "public int CycleCutter.doubt(int)" + out,
                "public int CycleCutter.value(int,int)" + out,
                "public int CycleCutter.count(int)"));
    }

    private static Set<String> visible() {
        Set<String> all = new TreeSet<>();
        for (Field field : CycleCutter.class.getDeclaredFields()) {
            if (!Modifier.isPrivate(field.getModifiers())) {
                all.add(field.toString());
            }
        }
        for (Constructor<?> made : CycleCutter.class.getDeclaredConstructors()) {
            if (!Modifier.isPrivate(made.getModifiers())) {
                all.add(made.toString());
            }
        }
        for (Method method : CycleCutter.class.getDeclaredMethods()) {
            if (!Modifier.isPrivate(method.getModifiers())) {
                all.add(method.toString());
            }
        }
        return all;
    }
}
