import java.lang.reflect.Constructor;
import java.lang.reflect.Field;
import java.lang.reflect.Method;
import java.lang.reflect.Modifier;
import java.util.Arrays;
import java.util.TreeSet;

/** The public face is the document's, to the letter, and nothing beside it can be seen. */
public final class FaceTest {
    private static final String[] FACE = {
        "int given(int) IllegalArgumentException IllegalStateException",
        "int other(int) IllegalArgumentException IllegalStateException",
        "int change(int,int) IndexOutOfBoundsException IllegalArgumentException",
        "int clear(boolean)",
        "int ratio(int) IllegalArgumentException",
        "boolean lower(boolean)",
        "boolean feign(boolean)",
        "int notes()",
        "int noteAt(int) IndexOutOfBoundsException",
        "int pitch(int) IndexOutOfBoundsException",
        "char interval(int) IndexOutOfBoundsException",
        "int setLaw(char,int) IllegalArgumentException",
        "int weight(char) IllegalArgumentException",
        "int style(int) IllegalArgumentException",
        "int faults()",
        "int faultAt(int) IndexOutOfBoundsException",
        "char faultOf(int) IndexOutOfBoundsException",
        "int cost()",
        "boolean isGood()",
        "int mend() IllegalStateException NoSuchElementException",
        "int range(int,int) IllegalArgumentException",
        "int find() IllegalStateException UnsupportedOperationException NoSuchElementException",
        "long goodLines() IllegalStateException UnsupportedOperationException",
        "int bars() IllegalStateException UnsupportedOperationException",
        "char barAt(int) IllegalStateException UnsupportedOperationException IndexOutOfBoundsException",
        "int exchanged(int) IllegalArgumentException IllegalStateException",
        "int canon(int,int) IllegalArgumentException IllegalStateException",
        "int canons() IllegalStateException",
        "int canonAt(int) IllegalStateException IndexOutOfBoundsException",
        "float stepShare() ArithmeticException",
        "double meanPitch() ArithmeticException",
        "boolean isConsistent()",
    };

    private static String sign(Method method) {
        StringBuilder text = new StringBuilder(method.getReturnType().getSimpleName());
        text.append(' ').append(method.getName()).append('(');
        for (int i = 0; i < method.getParameterCount(); i++) {
            text.append(i == 0 ? "" : ",").append(method.getParameterTypes()[i].getSimpleName());
        }
        text.append(')');
        for (Class<?> thrown : method.getExceptionTypes()) {
            text.append(' ').append(thrown.getSimpleName());
        }
        return text.toString();
    }

    public static void main(String[] args) {
        TreeSet<String> due = new TreeSet<>(Arrays.asList(FACE));
        TreeSet<String> got = new TreeSet<>();
        TreeSet<String> names = new TreeSet<>();
        boolean isClean = Modifier.isFinal(Counterpointery.class.getModifiers());
        for (Method method : Counterpointery.class.getDeclaredMethods()) {
            if (Modifier.isPublic(method.getModifiers())) {
                got.add(sign(method));
                isClean &= names.add(method.getName());
            }
        }
        for (Method method : Counterpointery.class.getDeclaredMethods()) {
            int modifiers = method.getModifiers();
            boolean isHidden = Modifier.isPrivate(modifiers) && !names.contains(method.getName());
            isClean &= Modifier.isPublic(modifiers) || isHidden;
        }
        for (Field field : Counterpointery.class.getDeclaredFields()) {
            isClean &= Modifier.isPrivate(field.getModifiers());
        }
        Constructor<?>[] constructors = Counterpointery.class.getDeclaredConstructors();
        isClean &= constructors.length == 1 && constructors[0].getParameterCount() == 0
                && Modifier.isPublic(constructors[0].getModifiers());
        if (!due.equals(got) || !isClean) {
            System.out.println("the face is " + got + ", due is " + due + ", clean: " + isClean);
            System.exit(1);
        }
        System.out.println("the face is the document's");
    }
}
