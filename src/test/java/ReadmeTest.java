import java.io.IOException;
import java.lang.reflect.Field;
import java.lang.reflect.Method;
import java.lang.reflect.Modifier;
import java.nio.file.Files;
import java.nio.file.Path;
import java.util.ArrayList;
import java.util.List;
import java.util.Set;
import java.util.TreeSet;
import java.util.regex.Matcher;
import java.util.regex.Pattern;

/** README.md tells every call and constant of the class, and its example answers what it says. Runs where README.md is. */
public final class ReadmeTest {
    private static final Class<KineticLattice> face = KineticLattice.class;
    // A call in the table, and one in the example with its answer, which clear() has not.
    private static final Pattern ROW = Pattern.compile("(?m)^\\| `(\\w+)\\(([^)]*)\\)` \\| \\S.*\\|$");
    private static final Pattern LINE = Pattern.compile("lattice\\.(\\w+)\\(([^)]*)\\);(?: *// (-?\\d+): .*)?");

    private static final Checks checks = new Checks();

    public static void main(String[] args) throws IOException, ReflectiveOperationException {
        String readme = Files.readString(Path.of("README.md"));
        everyCallIsTold(readme);
        everyConstantIsTold(readme);
        theExampleAnswersWhatItSays(readme);
        checks.end();
    }

    private static void everyCallIsTold(String readme) {
        checks.sentence("README.md tells every call");
        Set<String> told = new TreeSet<>();
        Matcher row = ROW.matcher(readme);
        while (row.find()) {
            told.add(row.group(1) + " of " + argumentsIn(row.group(2)).size());
        }
        Set<String> calls = new TreeSet<>();
        for (Method method : face.getDeclaredMethods()) {
            if (Modifier.isPublic(method.getModifiers())) {
                String call = method.getName() + " of " + method.getParameterCount();
                calls.add(call);
                checks.due(call + " is told", told.contains(call));
            }
        }
        for (String call : told) {
            checks.due(call + " is a call", calls.contains(call));
        }
        checks.due("the constructor is told", readme.contains("| `new KineticLattice()` | "));
    }

    private static void everyConstantIsTold(String readme) throws IllegalAccessException {
        checks.sentence("README.md tells every constant");
        for (Field field : face.getFields()) {
            String told = "`" + field.getName() + "` (" + field.get(null) + ")";
            checks.due(told + " is told", readme.contains(told));
        }
    }

    private static void theExampleAnswersWhatItSays(String readme) throws ReflectiveOperationException {
        checks.sentence("README.md's example");
        KineticLattice lattice = new KineticLattice();
        int made = 0;
        for (String line : exampleIn(readme)) {
            Matcher call = LINE.matcher(line);
            checks.due("a call with its answer: " + line, call.matches());
            if (call.matches()) {
                Object answer = answerOf(lattice, call.group(1), argumentsIn(call.group(2)));
                checks.due(line + " answered " + answer, String.valueOf(answer).equals(String.valueOf(call.group(3))));
                made++;
            }
        }
        checks.due("it makes calls", made > 0);
    }

    // The lines after the one that makes the object.
    private static List<String> exampleIn(String readme) {
        String start = "```java\nKineticLattice lattice = new KineticLattice();\n";
        int from = readme.indexOf(start);
        int to = readme.indexOf("\n```", from + 1);
        checks.due("it is there", from >= 0 && to > from);
        return from < 0 || to < from ? List.of() : readme.substring(from + start.length(), to).lines().toList();
    }

    private static List<String> argumentsIn(String list) {
        return list.isEmpty() ? List.of() : List.of(list.split(", "));
    }

    // A call that answers nothing gives null here, as a line without an answer does.
    private static Object answerOf(KineticLattice lattice, String name, List<String> arguments) throws ReflectiveOperationException {
        List<Class<?>> types = new ArrayList<>();
        List<Object> values = new ArrayList<>();
        for (String argument : arguments) {
            types.add(int.class);
            values.add(valueOf(argument));
        }
        Method method = face.getMethod(name, types.toArray(new Class<?>[0]));
        return method.invoke(lattice, values.toArray());
    }

    private static Object valueOf(String argument) throws ReflectiveOperationException {
        String owner = "KineticLattice.";
        if (argument.startsWith(owner)) {
            return face.getField(argument.substring(owner.length())).get(null);
        }
        return Integer.valueOf(argument);
    }
}
