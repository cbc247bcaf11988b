import java.lang.reflect.Constructor;
import java.lang.reflect.Field;
import java.lang.reflect.Method;
import java.lang.reflect.Modifier;
import java.util.Arrays;
import java.util.Set;
import java.util.TreeSet;

/** The class has the document's face and nothing more that can be seen. */
public final class FaceTest {
    private static final String[] FACE = {
        "public static final int NONE",
        "public FairLoops()",
        "public int state(int,boolean) IllegalArgumentException UnsupportedOperationException",
        "public int move(int,int,int) IllegalArgumentException UnsupportedOperationException",
        "public int label(int,int) IndexOutOfBoundsException IllegalArgumentException",
        "public int reached()",
        "public boolean live(int) IllegalArgumentException",
        "public int parts(int) IllegalArgumentException",
        "public int part(int,int,int) IllegalArgumentException IndexOutOfBoundsException",
        "public int dead(int,int) IllegalArgumentException IndexOutOfBoundsException",
        "public int longest(int) IllegalArgumentException",
        "public int rank(int,int) IllegalArgumentException IndexOutOfBoundsException",
        "public int row(int,int) IndexOutOfBoundsException",
        "public int largest(int) IllegalArgumentException",
        "public int count(int)",
    };

    public static void main(String[] args) {
        Due due = new Due();
        Class<?> face = FairLoops.class;
        due.is("public final class", face.getModifiers(), Modifier.PUBLIC | Modifier.FINAL);
        Set<String> want = new TreeSet<>(Arrays.asList(FACE));
        Set<String> got = seen(face);
        for (String member : want) {
            due.is("has " + member, got.contains(member), true);
        }
        for (String member : got) {
            due.is("may have " + member, want.contains(member), true);
        }
        for (Class<?> inside : face.getDeclaredClasses()) {
            int how = inside.getModifiers();
            due.is("static: " + inside, Modifier.isStatic(how), true);
            due.is("not open: " + inside, Modifier.isPublic(how) || Modifier.isProtected(how), false);
        }
        for (Field field : face.getDeclaredFields()) {
            due.is("never set anew: " + field, Modifier.isFinal(field.getModifiers()), true);
        }
        due.end();
    }

    private static Set<String> seen(Class<?> face) {
        Set<String> members = new TreeSet<>();
        for (Field f : face.getDeclaredFields()) {
            if (!Modifier.isPrivate(f.getModifiers())) {
                members.add(Modifier.toString(f.getModifiers()) + " " + f.getType() + " " + f.getName());
            }
        }
        for (Constructor<?> c : face.getDeclaredConstructors()) {
            if (!Modifier.isPrivate(c.getModifiers())) {
                members.add(Modifier.toString(c.getModifiers()) + " " + c.getDeclaringClass().getName()
                        + names(c.getParameterTypes(), c.getExceptionTypes()));
            }
        }
        for (Method m : face.getDeclaredMethods()) {
            if (!Modifier.isPrivate(m.getModifiers())) {
                members.add(Modifier.toString(m.getModifiers()) + " " + m.getReturnType() + " " + m.getName()
                        + names(m.getParameterTypes(), m.getExceptionTypes()));
            }
        }
        return members;
    }

    private static String names(Class<?>[] parameters, Class<?>[] exceptions) {
        StringBuilder text = new StringBuilder("(");
        for (int i = 0; i < parameters.length; i++) {
            text.append(i == 0 ? "" : ",").append(parameters[i].getSimpleName());
        }
        text.append(")");
        for (Class<?> exception : exceptions) {
            text.append(" ").append(exception.getSimpleName());
        }
        return text.toString();
    }
}
