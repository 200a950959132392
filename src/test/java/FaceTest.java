import java.lang.reflect.Constructor;
import java.lang.reflect.Field;
import java.lang.reflect.Member;
import java.lang.reflect.Method;
import java.lang.reflect.Modifier;
import java.util.ArrayList;
import java.util.Arrays;
import java.util.List;
import java.util.TreeSet;

/** The class has the document's face, and nothing else that others can see. */
final class FaceTest {
    private static final List<String> METHODS = List.of(
        "int feed(int,int,int,int,int) throws java.lang.IllegalStateException",
        "int trim(int) throws java.lang.IllegalArgumentException",
        "int read()",
        "int fault(int) throws java.lang.IllegalArgumentException",
        "boolean check() throws java.lang.IllegalStateException",
        "boolean more() throws java.lang.IllegalStateException",
        "boolean suppose(int) throws java.lang.IllegalArgumentException,java.lang.IllegalStateException",
        "long value(int,int) throws java.lang.IllegalArgumentException,java.lang.IllegalStateException",
        "long named(int) throws java.lang.IllegalArgumentException,java.lang.IllegalStateException",
        "int missed()",
        "int refused()",
        "int thing(int,int) throws java.lang.IllegalArgumentException",
        "int count(int) throws java.lang.IllegalArgumentException");

    public static void main(String[] args) {
        Bench.due("the modifiers", Modifier.toString(VectorSolver.class.getModifiers()), "public final");
        List<String> seen = new ArrayList<>();
        for (Method method : VectorSolver.class.getDeclaredMethods()) {
            if (!isHidden(method)) {
                seen.add(method.toGenericString().replace("public ", "").replace("VectorSolver.", ""));
            }
        }
        Bench.due("the methods", new TreeSet<>(seen), new TreeSet<>(METHODS));
        for (Field field : VectorSolver.class.getDeclaredFields()) {
            boolean isNone = field.toString().equals("public static final int VectorSolver.NONE");
            Bench.due(field + " is NONE or hidden", isNone || isHidden(field), true);
        }
        Constructor<?>[] constructors = VectorSolver.class.getDeclaredConstructors();
        Bench.due("the constructors", Arrays.toString(constructors), "[public VectorSolver()]");
        for (Class<?> inside : VectorSolver.class.getDeclaredClasses()) {
            Bench.due(inside + " is static", Modifier.isStatic(inside.getModifiers()), true);
            Bench.due(inside + " is not for others", Modifier.isPublic(inside.getModifiers()), false);
        }
        Bench.finish();
    }

    private static boolean isHidden(Member member) {
        return Modifier.isPrivate(member.getModifiers()) || member.isSynthetic();
    }
}
