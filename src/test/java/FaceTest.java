import java.lang.reflect.Constructor;
import java.lang.reflect.Field;
import java.lang.reflect.Method;
import java.lang.reflect.Modifier;
import java.util.ArrayList;
import java.util.Collections;
import java.util.List;

/** The public face is the document's and nothing more (rule 1). */
public final class FaceTest {
    private static final String[] FACE = {
        "int feed(int,int,int,int,int)", "boolean end(int)", "int island()", "int fault()", "int cell(int,int,int)",
        "int house(int,int)!", "int person(int,int)!", "int now(int)", "int go(int,int)", "int lay(int,int)",
        "int tear(int,int)", "int bury(int)", "int hours(int)", "int undo()", "int shadow(int,int)",
        "int heirs(int,int)", "int share(int,int,int,int)!", "int best(int,int)", "int spare(int,int,int)",
        "int spareAt()", "int crowd(int,int,int)", "int near(int,int,int)", "int when()", "int ask()",
        "int longest()", "int longestAt(int)", "int slip(int)", "int byteAt(int)", "int drawn(int,int)",
        "int odds(int,int,int)", "int book(int)", "int told(int)", "int sentence()", "int said(int)",
        "boolean image(int)", "boolean restore(int)", "int count(int)",
    };

    private static String told(Method m) {
        StringBuilder text = new StringBuilder(m.getReturnType().getName()).append(' ').append(m.getName()).append('(');
        Class<?>[] types = m.getParameterTypes();
        for (int i = 0; i < types.length; i++) {
            text.append(i > 0 ? "," : "").append(types[i].getName());
        }
        text.append(')');
        Class<?>[] thrown = m.getExceptionTypes();
        if (thrown.length == 1 && thrown[0] == java.util.NoSuchElementException.class) {
            text.append('!');
        }
        return text.toString();
    }

    private static void publicMethods() {
        List<String> got = new ArrayList<>();
        List<String> faceNames = new ArrayList<>();
        for (Method m : ShadowHeirs.class.getDeclaredMethods()) {
            if (Modifier.isPublic(m.getModifiers())) {
                got.add(told(m));
                faceNames.add(m.getName());
                Due.no(m.getName() + " is static", Modifier.isStatic(m.getModifiers()));
            } else {
                Due.yes(m.getName() + " is private", Modifier.isPrivate(m.getModifiers()));
            }
        }
        List<String> want = new ArrayList<>(List.of(FACE));
        Collections.sort(got);
        Collections.sort(want);
        Due.same("the public methods", got.toString(), want.toString());
        for (Class<?> inside : ShadowHeirs.class.getDeclaredClasses()) {
            Due.yes(inside.getName() + " is static", Modifier.isStatic(inside.getModifiers()));
            for (Method m : inside.getDeclaredMethods()) {
                Due.no(m.getName() + " inside bears a public name", faceNames.contains(m.getName()));
            }
        }
    }

    private static void constantAndConstructor() throws Exception {
        for (Field f : ShadowHeirs.class.getDeclaredFields()) {
            boolean isNone = f.getName().equals("NONE");
            Due.yes(f.getName() + " is private but for NONE", isNone != Modifier.isPrivate(f.getModifiers()));
        }
        Field none = ShadowHeirs.class.getField("NONE");
        Due.yes("NONE is a constant", Modifier.isStatic(none.getModifiers()) && Modifier.isFinal(none.getModifiers()));
        Due.same("NONE", ShadowHeirs.NONE, -1);
        Constructor<?>[] made = ShadowHeirs.class.getDeclaredConstructors();
        Due.same("constructors", made.length, 1);
        Due.yes("a public one", Modifier.isPublic(made[0].getModifiers()));
        Due.same("its parameters", made[0].getParameterCount(), 0);
        int modifiers = ShadowHeirs.class.getModifiers();
        Due.yes("the class is public and final", Modifier.isPublic(modifiers) && Modifier.isFinal(modifiers));
    }

    public static void main(String[] args) throws Exception {
        publicMethods();
        constantAndConstructor();
        Due.finish("FaceTest");
    }
}
