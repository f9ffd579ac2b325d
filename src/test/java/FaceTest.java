import java.lang.reflect.Constructor;
import java.lang.reflect.Field;
import java.lang.reflect.Method;
import java.lang.reflect.Modifier;
import java.nio.file.Files;
import java.nio.file.Path;
import java.util.Arrays;
import java.util.HashSet;
import java.util.Set;
import java.util.TreeSet;

/** The class has the document's face and no other, and keeps to the rules that can be read off it. */
public final class FaceTest {
    private static final String[] FACE = {
        "boolean poke(int,long)", "int enclave(int,int)", "int run(int)", "int state(int)",
        "long eye(int,int)", "long held(int)", "long peek(int)", "long pmp(int,int)", "long register(int)",
        "void interrupt()", "void reset(long)"
    };

    public static void main(String[] args) throws Exception {
        Check check = new Check("FaceTest");
        check.due("NONE", EnclaveBoard.NONE, -1);
        check.due("public final", Modifier.isPublic(EnclaveBoard.class.getModifiers())
                && Modifier.isFinal(EnclaveBoard.class.getModifiers()), true);
        methods(check);
        fields(check);
        constructors(check);
        nested(check);
        words(check);
        check.end();
    }

    private static String told(Method m) {
        StringBuilder text = new StringBuilder(m.getReturnType().getSimpleName()).append(' ').append(m.getName()).append('(');
        Class<?>[] types = m.getParameterTypes();
        for (int k = 0; k < types.length; k++) {
            text.append(k == 0 ? "" : ",").append(types[k].getSimpleName());
        }
        return text.append(')').toString();
    }

    private static void methods(Check check) {
        Set<String> open = new TreeSet<>();
        for (Method m : EnclaveBoard.class.getDeclaredMethods()) {
            if (!Modifier.isPrivate(m.getModifiers())) {
                open.add(told(m));
            }
        }
        check.due("the methods " + open, open.equals(new TreeSet<>(Arrays.asList(FACE))), true);
    }

    private static void fields(Check check) {
        for (Field f : EnclaveBoard.class.getDeclaredFields()) {
            check.due(f.getName() + " is private", Modifier.isPrivate(f.getModifiers()), !f.getName().equals("NONE"));
            check.due(f.getName() + " if static is final",
                    !Modifier.isStatic(f.getModifiers()) || Modifier.isFinal(f.getModifiers()), true);
        }
    }

    private static void constructors(Check check) {
        Constructor<?>[] all = EnclaveBoard.class.getDeclaredConstructors();
        check.due("constructors", all.length, 1);
        check.due("the constructor", all[0].getParameterCount() == 1 && all[0].getParameterTypes()[0] == long.class
                && Modifier.isPublic(all[0].getModifiers()), true);
    }

    private static void nested(Check check) {
        Set<String> taken = new HashSet<>();
        for (Method m : EnclaveBoard.class.getMethods()) {
            taken.add(m.getName());
        }
        Class<?>[] all = EnclaveBoard.class.getDeclaredClasses();
        check.due("at most twelve classes", all.length < 12, true);
        for (Class<?> c : all) {
            check.due(c + " is static", Modifier.isStatic(c.getModifiers()), true);
            check.due(c + " is not open", Modifier.isPublic(c.getModifiers()) || Modifier.isProtected(c.getModifiers()), false);
            int own = 0;
            for (Field f : c.getDeclaredFields()) {
                own += Modifier.isStatic(f.getModifiers()) ? 0 : 1;
            }
            check.due(c + " has at most twenty fields", own <= 20, true);
            for (Method m : c.getDeclaredMethods()) {
                check.due(m + " bears a public name", taken.contains(m.getName()), false);
                check.due(m + " takes at most seven", m.getParameterCount() <= 7, true);
            }
        }
    }

    private static void words(Check check) throws Exception {
        String text = Files.readString(Path.of("src/main/java/EnclaveBoard.java"));
        String code = text.replaceAll("(?s)/\\*.*?\\*/", " ").replaceAll("//[^\n]*", " ");
        for (String word : new String[] {"throw", "throws", "try", "catch", "synchronized", "assert", "package", "protected"}) {
            check.due("the word " + word, code.matches("(?s).*\\b" + word + "\\b.*"), false);
        }
        for (String sign : new String[] {"->", "::", "Exact(", "System.", "Object ", "hashCode", "toString"}) {
            check.due("the sign " + sign, code.contains(sign), false);
        }
    }
}
