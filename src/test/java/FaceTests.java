import java.lang.reflect.Constructor;
import java.lang.reflect.Field;
import java.lang.reflect.Method;
import java.lang.reflect.Modifier;
import java.util.Arrays;
import java.util.Set;
import java.util.TreeSet;

/** The public face is the document's and nothing besides (LANGUAGE.md, rules 1 and 5). */
public final class FaceTests {
    private static final String[] FACE = {
        "int about(int,int)", "int all(int,int,int)", "int back(int,int)", "long behind(int)", "int count(int)",
        "boolean end(int)", "int feed(int,int,int,int,int)", "int height(int)", "int join(int,int,int)",
        "int keeps(int)", "boolean mirror(int,int)", "int missed(int)", "int octet(int) throws NoSuchElementException",
        "boolean rename(int,int)", "int ring(int,int)", "long ringsBehind(int)", "int round()", "int row(int)",
        "boolean rule(int,int,int)", "int table(int)", "int trim(int,int)"};

    private static int wrong = 0;

    public static void main(String[] args) {
        Class<?> face = MossRings.class;
        due("public and final", Modifier.isPublic(face.getModifiers()) && Modifier.isFinal(face.getModifiers()));
        Set<String> shown = new TreeSet<>();
        Set<String> names = new TreeSet<>();
        for (Method method : face.getDeclaredMethods()) {
            if (Modifier.isPublic(method.getModifiers())) {
                shown.add(told(method));
                names.add(method.getName());
            } else {
                due(method.getName() + " is private", Modifier.isPrivate(method.getModifiers()));
            }
        }
        Set<String> due = new TreeSet<>(Arrays.asList(FACE));
        due("the methods are " + shown, shown.equals(due));
        privateNames(face, names);
        for (Class<?> inside : face.getDeclaredClasses()) {
            due(inside + " is static", Modifier.isStatic(inside.getModifiers()));
            privateNames(inside, names);
            staticFields(inside);
        }
        Constructor<?>[] constructors = face.getDeclaredConstructors();
        due("one constructor", constructors.length == 1 && constructors[0].getParameterCount() == 0
            && Modifier.isPublic(constructors[0].getModifiers()));
        for (Field field : face.getDeclaredFields()) {
            boolean none = field.getName().equals("NONE") && Modifier.isPublic(field.getModifiers());
            due(field + " is private", none || Modifier.isPrivate(field.getModifiers()));
        }
        staticFields(face);
        if (wrong != 0) {
            System.exit(1);
        }
    }

    private static String told(Method method) {
        StringBuilder text = new StringBuilder(method.getReturnType().getSimpleName());
        text.append(' ').append(method.getName()).append('(');
        for (int i = 0; i < method.getParameterCount(); i++) {
            text.append(i == 0 ? "" : ",").append(method.getParameterTypes()[i].getSimpleName());
        }
        text.append(')');
        for (Class<?> thrown : method.getExceptionTypes()) {
            text.append(" throws ").append(thrown.getSimpleName());
        }
        return text.toString();
    }

    private static void privateNames(Class<?> owner, Set<String> names) {
        for (Method method : owner.getDeclaredMethods()) {
            boolean shown = owner == MossRings.class && Modifier.isPublic(method.getModifiers());
            due(owner + "." + method.getName() + " bears no public name", shown || !names.contains(method.getName()));
        }
    }

    private static void staticFields(Class<?> owner) {
        for (Field field : owner.getDeclaredFields()) {
            boolean kept = !Modifier.isStatic(field.getModifiers()) || Modifier.isFinal(field.getModifiers());
            due(field + " is final, if static", kept);
        }
    }

    private static void due(String what, boolean holds) {
        if (!holds) {
            wrong++;
            System.out.println("not so: " + what);
        }
    }
}
