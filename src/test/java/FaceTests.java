import java.lang.reflect.Constructor;
import java.lang.reflect.Field;
import java.lang.reflect.Method;
import java.lang.reflect.Modifier;
import java.util.Arrays;
import java.util.Set;
import java.util.TreeSet;

/** The class shows the document's face and nothing else (LANGUAGE.md, rules 1, 5 and 11). */
public final class FaceTests {
    private static int wrong = 0;

    private static final Set<String> FACE = new TreeSet<>(Arrays.asList(
            "feed(long,int)", "fill(int,int,int)", "again(int,int)", "size()", "set(int,int)", "cut(int)",
            "swap()", "differ()", "out(int)", "old()", "given(int,int)", "entry(int,int,int)", "make(int)",
            "open()", "place()", "told(int)", "instruction(int,int)", "table(int,int)", "cache(int,int)"));

    private static void want(boolean holds, String text) {
        if (!holds) {
            wrong++;
            System.out.println("not so: " + text);
        }
    }

    private static String signature(Method method) {
        StringBuilder text = new StringBuilder(method.getName()).append('(');
        for (Class<?> type : method.getParameterTypes()) {
            text.append(text.charAt(text.length() - 1) == '(' ? "" : ",").append(type.getName());
        }
        return text.append(')').toString();
    }

    public static void main(String[] args) {
        Class<?> face = VcdiffForms.class;
        want(Modifier.isPublic(face.getModifiers()) && Modifier.isFinal(face.getModifiers()), "public final class");
        Constructor<?>[] makers = face.getDeclaredConstructors();
        want(makers.length == 1 && makers[0].getParameterCount() == 0 && Modifier.isPublic(makers[0].getModifiers()),
                "one public constructor without parameters");
        checkMethods(face);
        for (Field field : face.getDeclaredFields()) {
            checkField(field);
            want(Modifier.isPrivate(field.getModifiers()), "field " + field.getName() + " is private");
        }
        want(face.getDeclaredClasses().length <= 12, "at most twelve classes inside");
        for (Class<?> inside : face.getDeclaredClasses()) {
            checkInside(inside);
        }
        System.out.println(wrong == 0 ? "the face is as due" : wrong + " things are not as due");
        if (wrong != 0) {
            System.exit(1);
        }
    }

    private static void checkMethods(Class<?> face) {
        Set<String> shown = new TreeSet<>();
        Set<String> names = new TreeSet<>();
        for (Method method : face.getDeclaredMethods()) {
            if (Modifier.isPublic(method.getModifiers())) {
                shown.add(signature(method));
                names.add(method.getName());
                want(method.getReturnType() == int.class, method.getName() + " answers an int");
                want(!Modifier.isStatic(method.getModifiers()), method.getName() + " is of an object");
            }
        }
        want(shown.equals(FACE), "the public methods are " + FACE + ", but they are " + shown);
        for (Method method : face.getDeclaredMethods()) {
            boolean isPublic = Modifier.isPublic(method.getModifiers());
            want(isPublic || Modifier.isPrivate(method.getModifiers()), method.getName() + " is public or private");
            want(isPublic || !names.contains(method.getName()), method.getName() + " has a name of its own");
            want(method.getParameterCount() <= 7, method.getName() + " has at most seven parameters");
        }
    }

    private static void checkInside(Class<?> inside) {
        int modifiers = inside.getModifiers();
        want(Modifier.isStatic(modifiers), inside.getName() + " is static");
        want(!Modifier.isPublic(modifiers) && !Modifier.isProtected(modifiers), inside.getName() + " is not shown");
        int fields = 0;
        for (Field field : inside.getDeclaredFields()) {
            checkField(field);
            fields += Modifier.isStatic(field.getModifiers()) ? 0 : 1;
        }
        want(fields <= 20, inside.getName() + " has at most twenty fields");
        for (Method method : inside.getDeclaredMethods()) {
            want(method.getParameterCount() <= 7, method.getName() + " has at most seven parameters");
            for (String named : FACE) {
                want(!named.startsWith(method.getName() + "("), inside.getName() + "." + method.getName() + " has a name of its own");
            }
        }
    }

    private static void checkField(Field field) {
        if (Modifier.isStatic(field.getModifiers())) {
            want(Modifier.isFinal(field.getModifiers()), "static field " + field.getName() + " is final");
        }
    }
}
