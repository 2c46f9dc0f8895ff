import java.lang.reflect.Constructor;
import java.lang.reflect.Field;
import java.lang.reflect.Method;
import java.lang.reflect.Modifier;
import java.util.Arrays;
import java.util.TreeSet;

/** The public face: the document's constants, constructor and methods, and nothing else that can be seen. */
public final class FaceTest {
    private static final String INDEX = " throws IndexOutOfBoundsException";
    private static final String BOTH = INDEX + " IllegalArgumentException";

    public static void main(String[] args) {
        Check.due("class", Modifier.toString(PolynomialHeap.class.getModifiers()), "public final");
        Check.due("NONE", PolynomialHeap.NONE, -1);
        Check.due("members", seen(), wanted());
        Check.end();
    }

    private static TreeSet<String> wanted() {
        return new TreeSet<>(Arrays.asList(
            "public static final int NONE",
            "public PolynomialHeap(int)",
            "public void constant(int int)" + INDEX,
            "public void variable(int int)" + BOTH,
            "public void add(int int int int)" + INDEX,
            "public boolean multiply(int int int)" + INDEX,
            "public boolean power(int int int)" + BOTH,
            "public void divide(int int int boolean)" + BOTH,
            "public void derive(int int int)" + BOTH,
            "public boolean put(int int int int)" + BOTH,
            "public boolean resultant(int int int int)" + BOTH,
            "public int value(int int int int)" + INDEX,
            "public int terms(int)" + INDEX,
            "public int term(int int int)" + BOTH,
            "public int coefficient(int int int int)" + BOTH,
            "public int degree(int int)" + BOTH,
            "public boolean isSame(int int)" + INDEX,
            "public int count(int)"));
    }

    private static TreeSet<String> seen() {
        TreeSet<String> found = new TreeSet<>();
        for (Field f : PolynomialHeap.class.getDeclaredFields()) {
            if (!Modifier.isPrivate(f.getModifiers())) {
                found.add(Modifier.toString(f.getModifiers()) + " " + f.getType() + " " + f.getName());
            }
        }
        for (Constructor<?> c : PolynomialHeap.class.getDeclaredConstructors()) {
            if (!Modifier.isPrivate(c.getModifiers())) {
                found.add(Modifier.toString(c.getModifiers()) + " " + c.getName() + names("(", ")", c.getParameterTypes())
                    + thrown(c.getExceptionTypes()));
            }
        }
        for (Method m : PolynomialHeap.class.getDeclaredMethods()) {
            if (!Modifier.isPrivate(m.getModifiers())) {
                found.add(Modifier.toString(m.getModifiers()) + " " + m.getReturnType() + " " + m.getName()
                    + names("(", ")", m.getParameterTypes()) + thrown(m.getExceptionTypes()));
            }
        }
        return found;
    }

    private static String thrown(Class<?>[] types) {
        return types.length == 0 ? "" : names(" throws ", "", types);
    }

    private static String names(String open, String close, Class<?>[] types) {
        StringBuilder text = new StringBuilder(open);
        for (int i = 0; i < types.length; i++) {
            text.append(i == 0 ? "" : " ").append(types[i].getSimpleName());
        }
        return text.append(close).toString();
    }
}
