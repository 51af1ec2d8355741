import java.lang.reflect.Constructor;
import java.lang.reflect.Field;
import java.lang.reflect.Member;
import java.lang.reflect.Method;
import java.lang.reflect.Modifier;
import java.util.Arrays;
import java.util.TreeSet;
import java.util.stream.Collectors;

/** The public face, to the letter, and no member beside it that others could see. */
public final class FaceTest {
    private static final Due DUE = new Due("FaceTest");
    private static final String INDEX = "ArrayIndexOutOfBoundsException";
    private static final String ARGUMENT = "IllegalArgumentException";
    private static final String UNSUPPORTED = "UnsupportedOperationException";

    public static void main(String[] args) {
        DUE.same("the class", Modifier.toString(WidthWords.class.getModifiers()), "public final");
        DUE.same("the class above", WidthWords.class.getSuperclass(), Object.class);
        TreeSet<String> due = new TreeSet<>(Arrays.asList(
            "WidthWords(int)",
            "int word() " + UNSUPPORTED,
            "boolean set(int,int,long) " + INDEX,
            "int op(int,int,int) " + INDEX + "," + ARGUMENT + ",ArithmeticException," + UNSUPPORTED,
            "int flag(int) " + ARGUMENT,
            "int field(int,int,int) " + INDEX + "," + ARGUMENT + "," + UNSUPPORTED,
            "int join(int,int) " + INDEX + "," + ARGUMENT + "," + UNSUPPORTED,
            "int extend(int,int,boolean) " + INDEX + "," + ARGUMENT + "," + UNSUPPORTED,
            "int compare(int,int,boolean) " + INDEX + "," + ARGUMENT,
            "boolean bit(int,int) " + INDEX + "," + ARGUMENT,
            "long limb(int,int) " + INDEX,
            "int real(int,int,int,int) " + INDEX + "," + ARGUMENT + "," + UNSUPPORTED,
            "int flags()",
            "int count(int) " + INDEX,
            "int width(int) " + INDEX));
        DUE.same("the face", seen(), due);
        hidden();
        DUE.end();
    }

    private static boolean isSeen(Member member) {
        return !Modifier.isPrivate(member.getModifiers()) && !member.isSynthetic();
    }

    private static String names(Class<?>[] types) {
        return Arrays.stream(types).map(Class::getSimpleName).collect(Collectors.joining(","));
    }

    private static TreeSet<String> seen() {
        TreeSet<String> all = new TreeSet<>();
        for (Constructor<?> made : WidthWords.class.getDeclaredConstructors()) {
            all.add(("WidthWords(" + names(made.getParameterTypes()) + ") " + names(made.getExceptionTypes())).trim());
        }
        for (Method method : WidthWords.class.getDeclaredMethods()) {
            if (isSeen(method)) {
                DUE.same(method.getName() + " is", Modifier.toString(method.getModifiers()), "public");
                all.add((method.getReturnType().getSimpleName() + " " + method.getName() + "("
                    + names(method.getParameterTypes()) + ") " + names(method.getExceptionTypes())).trim());
            }
        }
        return all;
    }

    private static void hidden() {
        TreeSet<String> face = new TreeSet<>();
        for (Method method : WidthWords.class.getDeclaredMethods()) {
            if (isSeen(method)) {
                face.add(method.getName());
            }
        }
        for (Method method : WidthWords.class.getDeclaredMethods()) {
            DUE.same("a private method bears a name of the face: " + method.getName(), isSeen(method) || !face.contains(method.getName()), true);
        }
        for (Field field : WidthWords.class.getDeclaredFields()) {
            DUE.same("the field " + field.getName() + " is private", isSeen(field), false);
            DUE.same("static fields are final: " + field.getName(), !Modifier.isStatic(field.getModifiers()) || Modifier.isFinal(field.getModifiers()), true);
        }
        for (Class<?> inside : WidthWords.class.getDeclaredClasses()) {
            int how = inside.getModifiers();
            DUE.same(inside.getSimpleName() + " is static and not public", Modifier.isStatic(how) && !Modifier.isPublic(how) && !Modifier.isProtected(how), true);
            for (Method method : inside.getDeclaredMethods()) {
                DUE.same("a method inside bears a name of the face: " + method.getName(), face.contains(method.getName()), false);
            }
            for (Field field : inside.getDeclaredFields()) {
                DUE.same("static fields are final: " + field.getName(), !Modifier.isStatic(field.getModifiers()) || Modifier.isFinal(field.getModifiers()), true);
            }
        }
    }
}
