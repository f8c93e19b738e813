import java.lang.reflect.Constructor;
import java.lang.reflect.Field;
import java.lang.reflect.Method;
import java.lang.reflect.Modifier;
import java.util.Arrays;
import java.util.TreeSet;

/** The class has the document's face, and no other public, protected or package-visible member. */
public final class FaceTests {
    private static final String[] FACE = {
        "boolean holds()",
        "double share()",
        "int advise(int) IndexOutOfBoundsException",
        "int bears()",
        "int blame()",
        "int build()",
        "int byteAt(int) IndexOutOfBoundsException",
        "int card(int,int) IndexOutOfBoundsException",
        "int clear()",
        "int count(int) IndexOutOfBoundsException",
        "int cut(int) IndexOutOfBoundsException",
        "int errorAt()",
        "int feed(int,int,int,int,int) IllegalStateException",
        "int fit(int) IndexOutOfBoundsException",
        "int hide(int) IndexOutOfBoundsException IllegalStateException",
        "int joint(int,int) IndexOutOfBoundsException",
        "int most(int) IndexOutOfBoundsException",
        "int put(int,int) IndexOutOfBoundsException IllegalArgumentException",
        "int removal()",
        "int run()",
        "int safe(int) IndexOutOfBoundsException",
        "int sure(int) IndexOutOfBoundsException",
        "int trim(int) IllegalArgumentException",
        "int would(int,int,boolean) IndexOutOfBoundsException IllegalArgumentException",
        "long digest()",
    };

    public static void main(String[] args) {
        TreeSet<String> names = new TreeSet<>();
        TreeSet<String> got = new TreeSet<>();
        for (Method method : CardBridge.class.getDeclaredMethods()) {
            if (!Modifier.isPrivate(method.getModifiers())) {
                got.add(told(method));
                names.add(method.getName());
                Check.same(method + " is public only", method.getModifiers(), Modifier.PUBLIC);
            }
        }
        TreeSet<String> due = new TreeSet<>(Arrays.asList(FACE));
        Check.isTrue("the methods are " + got + ", due are " + due, got.equals(due));
        Check.isTrue("the class is public and final",
                CardBridge.class.getModifiers() == (Modifier.PUBLIC | Modifier.FINAL));
        Constructor<?>[] constructors = CardBridge.class.getDeclaredConstructors();
        Check.isTrue("one public constructor without parameters", constructors.length == 1
                && constructors[0].getModifiers() == Modifier.PUBLIC && constructors[0].getParameterCount() == 0);
        for (Field field : CardBridge.class.getDeclaredFields()) {
            Check.isTrue(field + " is private", Modifier.isPrivate(field.getModifiers()));
        }
        lookInside(names);
        Check.end("FaceTests");
    }

    /** Classes inside are static; what is static is final; no method inside bears a name of the face. */
    private static void lookInside(TreeSet<String> names) {
        for (Class<?> inside : CardBridge.class.getDeclaredClasses()) {
            Check.isTrue(inside + " is static", Modifier.isStatic(inside.getModifiers()));
            for (Field field : inside.getDeclaredFields()) {
                int modifiers = field.getModifiers();
                Check.isTrue(field + " is no static variable",
                        !Modifier.isStatic(modifiers) || Modifier.isFinal(modifiers));
            }
            for (Method method : inside.getDeclaredMethods()) {
                Check.isFalse(method + " bears a name of the face", names.contains(method.getName()));
            }
        }
    }

    private static String told(Method method) {
        StringBuilder text = new StringBuilder();
        text.append(method.getReturnType().getSimpleName()).append(' ').append(method.getName()).append('(');
        String comma = "";
        for (Class<?> type : method.getParameterTypes()) {
            text.append(comma).append(type.getSimpleName());
            comma = ",";
        }
        text.append(')');
        for (Class<?> type : method.getExceptionTypes()) {
            text.append(' ').append(type.getSimpleName());
        }
        return text.toString();
    }
}
