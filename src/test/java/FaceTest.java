import java.lang.reflect.Constructor;
import java.lang.reflect.Field;
import java.lang.reflect.Method;
import java.lang.reflect.Modifier;
import java.util.Arrays;
import java.util.Set;
import java.util.TreeSet;

/** The class has the document's face and no other member that can be seen from outside. */
public final class FaceTest {
    private static final String[] FACE = {
        "int letters(int) IllegalArgumentException IndexOutOfBoundsException",
        "int empty() IndexOutOfBoundsException",
        "int then(int,int) IllegalArgumentException IndexOutOfBoundsException UnsupportedOperationException",
        "int or(int,int) IllegalArgumentException IndexOutOfBoundsException UnsupportedOperationException",
        "int and(int,int) IllegalArgumentException IndexOutOfBoundsException UnsupportedOperationException",
        "int not(int) IllegalArgumentException IndexOutOfBoundsException",
        "int again(int) IllegalArgumentException IndexOutOfBoundsException UnsupportedOperationException",
        "int automaton(int,int,int) IllegalArgumentException IndexOutOfBoundsException",
        "boolean has(int,int,long) IllegalArgumentException",
        "long words(int,int) IllegalArgumentException",
        "long first(int,int) IllegalArgumentException UnsupportedOperationException",
        "int shortest(int) IllegalArgumentException",
        "boolean within(int,int) IllegalArgumentException",
        "void variable(int,int) IllegalArgumentException",
        "int bound(int,int,int,int,int,int) IllegalArgumentException IndexOutOfBoundsException",
        "void clear()",
        "boolean solve(int) IllegalArgumentException",
        "int length(int) IllegalArgumentException IllegalStateException",
        "long word(int) IllegalArgumentException IllegalStateException",
    };

    public static void main(String[] args) {
        Check check = new Check("FaceTest");
        Class<?> face = RegularSolver.class;
        check.that("public and final", face.getModifiers() == (Modifier.PUBLIC | Modifier.FINAL));
        Set<String> due = new TreeSet<>(Arrays.asList(FACE));
        Set<String> publicNames = new TreeSet<>();
        Set<String> seen = new TreeSet<>();
        for (Method method : face.getDeclaredMethods()) {
            if (!Modifier.isPrivate(method.getModifiers())) {
                seen.add(told(method));
                publicNames.add(method.getName());
                check.that(method + " is public", method.getModifiers() == Modifier.PUBLIC);
            }
        }
        check.that("methods: due " + due + ", seen " + seen, due.equals(seen));
        for (Method method : face.getDeclaredMethods()) {
            boolean hides = Modifier.isPrivate(method.getModifiers()) && publicNames.contains(method.getName());
            check.that(method + " bears a name of its own", !hides);
        }
        for (Field field : face.getDeclaredFields()) {
            check.that(field + " is private", Modifier.isPrivate(field.getModifiers()));
        }
        Constructor<?>[] constructors = face.getDeclaredConstructors();
        check.that("one constructor", constructors.length == 1);
        check.that("a public one", constructors[0].getModifiers() == Modifier.PUBLIC);
        check.that("without parameters", constructors[0].getParameterCount() == 0);
        check.end();
    }

    private static String told(Method method) {
        StringBuilder text = new StringBuilder();
        text.append(method.getReturnType().getName()).append(' ').append(method.getName()).append('(');
        String gap = "";
        for (Class<?> type : method.getParameterTypes()) {
            text.append(gap).append(type.getName());
            gap = ",";
        }
        text.append(')');
        for (Class<?> thrown : method.getExceptionTypes()) {
            text.append(' ').append(thrown.getSimpleName());
        }
        return text.toString();
    }
}
