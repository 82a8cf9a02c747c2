import java.lang.reflect.Constructor;
import java.lang.reflect.Field;
import java.lang.reflect.Member;
import java.lang.reflect.Method;
import java.lang.reflect.Modifier;
import java.util.Arrays;
import java.util.Set;
import java.util.TreeSet;

/** The public face of the document, and the rules of LANGUAGE.md that the compiled class can show. */
public final class FaceTest {
    private static final Checks checks = new Checks();
    private static final Class<KineticLattice> face = KineticLattice.class;

    public static void main(String[] args) throws IllegalAccessException {
        theClass();
        theConstants();
        theMethods();
        theHiddenMembers();
        checks.end();
    }

    private static void theClass() {
        checks.due("the class is public and final", face.getModifiers(), Modifier.PUBLIC | Modifier.FINAL);
        checks.due("no class is nested", face.getDeclaredClasses().length, 0);
        checks.due("no package", face.getPackageName().isEmpty());
        Constructor<?>[] made = face.getDeclaredConstructors();
        checks.due("constructors", made.length, 1);
        checks.due("the constructor takes nothing", made[0].getParameterCount(), 0);
        checks.due("the constructor is public", made[0].getModifiers(), Modifier.PUBLIC);
    }

    private static void theConstants() throws IllegalAccessException {
        Set<String> want = new TreeSet<>(Arrays.asList(
            "BAD_SITE=-1", "BAD_RATE=-2", "BAD_PICK=-3", "ADSORB=0", "DESORB=1", "HOP=2"));
        Set<String> got = new TreeSet<>();
        for (Field field : face.getDeclaredFields()) {
            if (!isPrivate(field)) {
                int due = Modifier.PUBLIC | Modifier.STATIC | Modifier.FINAL;
                checks.due(field + " is a constant", field.getModifiers(), due);
                checks.due(field + " is an int", field.getType() == int.class);
                got.add(field.getName() + "=" + field.get(null));
            }
        }
        checks.due("constants " + got, got.equals(want));
    }

    private static void theMethods() {
        Set<String> want = new TreeSet<>(Arrays.asList(
            "int rate[int, int]", "int set[int, int]", "int step[int]", "int run[int, int]", "void clear[]",
            "int state[int]", "int total[]", "int siteRate[int]", "int occupied[]", "int pairs[]",
            "int happened[int]", "int before[int]"));
        Set<String> got = new TreeSet<>();
        for (Method method : face.getDeclaredMethods()) {
            if (!isPrivate(method)) {
                checks.due(method + " is public alone", method.getModifiers(), Modifier.PUBLIC);
                String takes = Arrays.toString(method.getParameterTypes());
                got.add(method.getReturnType() + " " + method.getName() + takes);
            }
        }
        checks.due("methods " + got, got.equals(want));
    }

    private static void theHiddenMembers() {
        for (Field field : face.getDeclaredFields()) {
            if (Modifier.isStatic(field.getModifiers())) {
                boolean number = field.getType() == int.class || field.getType() == long.class;
                checks.due(field + " is a constant", number && Modifier.isFinal(field.getModifiers()));
            }
        }
        for (Method hidden : face.getDeclaredMethods()) {
            for (Method method : face.getMethods()) {
                boolean same = hidden.getName().equals(method.getName());
                checks.due(hidden + " hides under a public name", !(isPrivate(hidden) && same));
            }
        }
    }

    private static boolean isPrivate(Member member) {
        return Modifier.isPrivate(member.getModifiers());
    }
}
