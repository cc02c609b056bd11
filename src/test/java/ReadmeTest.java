import java.io.BufferedReader;
import java.io.InputStreamReader;
import java.lang.reflect.Method;
import java.nio.charset.StandardCharsets;
import java.util.ArrayList;
import java.util.List;
import java.util.Set;
import java.util.TreeSet;
import java.util.regex.Matcher;
import java.util.regex.Pattern;

// Runs the examples of README.md, which comes as the input of this test, line by line: every call
// must answer what README.md says behind it, and no call of the class may lack an example.
public final class ReadmeTest {
    private static final Pattern MADE =
        Pattern.compile("ProfileHmm x = new ProfileHmm\\((-?\\d+)\\); +// .*");
    private static final Pattern CALLED =
        Pattern.compile("x\\.(\\w+)\\(((?:-?\\d+(?:, -?\\d+)*)?)\\); +// ([^:]*)(?:: .*)?");

    private static final Set<String> SHOWN = new TreeSet<>();

    private static int wrong = 0;
    private static ProfileHmm x = null;

    private static void due(String call, Object got, Object want) {
        if (!got.equals(want)) {
            wrong++;
            System.out.println(call + " answered " + got + ", due is " + want);
        }
    }

    public static void main(String[] args) throws Exception {
        for (String line : exampleLines()) {
            runLine(line);
        }
        due("the calls that README.md shows", SHOWN, callsOfTheClass());
        System.out.println(
            wrong == 0 ? "README.md answers as it says" : wrong + " answers are not as due");
        if (wrong != 0) {
            System.exit(1);
        }
    }

    private static List<String> exampleLines() throws Exception {
        List<String> found = new ArrayList<>();
        BufferedReader readme =
            new BufferedReader(new InputStreamReader(System.in, StandardCharsets.UTF_8));
        boolean inside = false;
        for (String line = readme.readLine(); line != null; line = readme.readLine()) {
            if (line.startsWith("```")) {
                inside = line.equals("```java");
            } else if (inside && !line.isBlank()) {
                found.add(line);
            }
        }
        return found;
    }

    private static void runLine(String line) throws Exception {
        Matcher made = MADE.matcher(line);
        Matcher called = CALLED.matcher(line);
        if (made.matches()) {
            x = new ProfileHmm(Integer.parseInt(made.group(1)));
        } else if (x != null && called.matches()) {
            runCall(called.group(1), called.group(2), called.group(3));
        } else {
            due("the line \"" + line + "\"", "nothing", "an answer that can be compared");
        }
    }

    private static void runCall(String name, String arguments, String answer) throws Exception {
        List<Object> values = new ArrayList<>();
        List<Class<?>> types = new ArrayList<>();
        for (String argument : arguments.isEmpty() ? new String[0] : arguments.split(", ")) {
            values.add(Integer.valueOf(argument));
            types.add(int.class);
        }
        Method method = ProfileHmm.class.getMethod(name, types.toArray(new Class<?>[0]));
        Object got = method.invoke(x, values.toArray());
        SHOWN.add(name);
        if (method.getReturnType() != void.class) {
            due(name + "(" + arguments + ")", ((Number) got).longValue(), valueOf(answer));
        }
    }

    private static long valueOf(String answer) throws Exception {
        return answer.matches("[A-Z_]+")
            ? ProfileHmm.class.getField(answer).getInt(null)
            : Long.parseLong(answer);
    }

    private static Set<String> callsOfTheClass() {
        Set<String> names = new TreeSet<>();
        for (Method method : ProfileHmm.class.getMethods()) {
            if (method.getDeclaringClass() == ProfileHmm.class) {
                names.add(method.getName());
            }
        }
        return names;
    }
}
