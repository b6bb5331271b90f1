import java.lang.reflect.Constructor;
import java.lang.reflect.Field;
import java.lang.reflect.Method;
import java.lang.reflect.Modifier;
import java.util.Arrays;
import java.util.Set;
import java.util.TreeSet;

/** The public face: all that the document names, with what it throws, and nothing else. */
public final class FaceTest {
    private static final String I = "IndexOutOfBoundsException", A = "IllegalArgumentException",
        S = "IllegalStateException";

    private static final String[] DUE = {
        "int body() " + S, "int line(int,int,int,int) " + I + " " + A + " " + S, "int ofBody(int,int) " + I + " " + A,
        "int generator(int) " + I + " " + S, "int resume(int,int) " + I + " " + A + " " + S,
        "int raise(int,int) " + I + " " + A + " " + S, "int close(int) " + I, "int start(int) " + I + " " + S,
        "int run(int) " + A, "int tick(int) " + A, "boolean cancel(int) " + I, "int of(int,int) " + I + " " + A,
        "int local(int,int) " + I, "int stack(int,int) " + I, "int ofTask(int,int) " + I + " " + A, "int many(int) " + A,
        "double meanLines()", "int wouldGive(int,int) " + I + " " + A, "int wouldClose(int) " + I, "int overIn(int) " + A,
        "boolean isOverBy(int,int) " + I + " " + A, "int left(int) " + I, "long digest()"};

    public static void main(String[] args) {
        Class<?> face = YieldMoor.class;
        Check.that("public and final", Modifier.isPublic(face.getModifiers()) && Modifier.isFinal(face.getModifiers()));
        Constructor<?>[] makers = face.getDeclaredConstructors();
        Check.that("one public constructor", makers.length == 1 && Modifier.isPublic(makers[0].getModifiers())
            && makers[0].getParameterCount() == 0);
        Set<String> got = new TreeSet<>();
        for (Method m : face.getDeclaredMethods()) {
            if (Modifier.isPrivate(m.getModifiers())) continue;
            Check.that(m + " is public and of an object", m.getModifiers() == Modifier.PUBLIC);
            got.add(told(m));
        }
        Check.that("methods " + got, got.equals(new TreeSet<>(Arrays.asList(DUE))));
        for (Field f : face.getDeclaredFields()) {
            Check.that(f + " is private", Modifier.isPrivate(f.getModifiers()));
        }
        Check.end("FaceTest");
    }

    private static String told(Method m) {
        StringBuilder told = new StringBuilder(m.getReturnType().getName() + " " + m.getName() + "(");
        String gap = "";
        for (Class<?> c : m.getParameterTypes()) {
            told.append(gap).append(c.getName());
            gap = ",";
        }
        told.append(")");
        for (Class<?> c : m.getExceptionTypes()) told.append(" ").append(c.getSimpleName());
        return told.toString();
    }
}
