import java.io.IOException;
import java.io.UncheckedIOException;
import java.lang.reflect.Method;
import java.nio.charset.StandardCharsets;
import java.nio.file.Files;
import java.nio.file.Path;
import java.util.ArrayList;
import java.util.List;
import java.util.Set;
import java.util.TreeSet;
import java.util.regex.Matcher;
import java.util.regex.Pattern;

/** README.md says what the class does: its calls answer so, and it has each call of the face. */
public final class ReadmeTest extends Edges {
    private static final Pattern EXAMPLE = Pattern.compile("planner\\.(\\w+)\\((.*)\\); +// (-?\\w+).*");
    private static final Pattern CALL = Pattern.compile("### `(int|boolean) (\\w+)\\((.*)\\)`");
    private static final Pattern THROWN = Pattern.compile("(\\d)\\. `(\\w+)` if .+");

    private static List<String> readme() {
        try {
            return Files.readAllLines(Path.of("README.md"), StandardCharsets.UTF_8);
        } catch (IOException failure) {
            throw new UncheckedIOException(failure);
        }
    }

    private static Object value(String text) {
        if (text.equals("true") || text.equals("false")) {
            return Boolean.valueOf(text);
        }
        return text.matches("-?\\d+") ? (Object) Integer.valueOf(text) : text;
    }

    private static Object[] values(String arguments) {
        List<Object> values = new ArrayList<>();
        for (String argument : arguments.isEmpty() ? new String[0] : arguments.split(", ")) {
            values.add(value(argument));
        }
        return values.toArray();
    }

    private static void firstUse(List<String> readme, Set<String> face) {
        sentence("A first use", () -> {
            BacklotPlanner planner = new BacklotPlanner();
            Set<String> shown = new TreeSet<>();
            for (String line : readme) {
                if (line.startsWith("planner.")) {
                    Matcher example = EXAMPLE.matcher(line);
                    is("the form of " + line, example.matches(), true);
                    due(planner, value(example.group(3)), example.group(1), values(example.group(2)));
                    shown.add(example.group(1));
                }
            }
            is("the calls shown", shown, face);
        });
    }

    /** What the face declares, and what the page has, in the same form: a call, and its exceptions in order. */
    private static void calls(List<String> readme, List<Method> face) {
        sentence("The calls", () -> {
            Set<String> due = new TreeSet<>();
            for (Method method : face) {
                due.add(declared(method));
            }
            Set<String> got = new TreeSet<>();
            for (int at = 0; at < readme.size(); at++) {
                if (CALL.matcher(readme.get(at)).matches()) {
                    got.add(described(readme, at));
                }
            }
            is("the calls", got, due);
        });
    }

    private static List<Method> face() {
        List<Method> face = new ArrayList<>();
        for (Method method : BacklotPlanner.class.getMethods()) {
            if (method.getDeclaringClass() == BacklotPlanner.class) {
                face.add(method);
            }
        }
        return face;
    }

    private static Set<String> names(List<Method> face) {
        Set<String> names = new TreeSet<>();
        for (Method method : face) {
            names.add(method.getName());
        }
        return names;
    }

    private static String declared(Method method) {
        StringBuilder text = new StringBuilder();
        text.append(method.getReturnType()).append(' ').append(method.getName());
        for (Class<?> parameter : method.getParameterTypes()) {
            text.append(' ').append(parameter);
        }
        int place = 1;
        for (Class<?> thrown : method.getExceptionTypes()) {
            text.append(' ').append(place).append(' ').append(thrown.getSimpleName());
            place++;
        }
        return text.append(place > 1 ? " leaves" : "").toString();
    }

    private static String described(List<String> readme, int heading) {
        Matcher call = CALL.matcher(readme.get(heading));
        is("a call at the line " + heading, call.matches(), true);
        StringBuilder text = new StringBuilder(call.group(1)).append(' ').append(call.group(2));
        for (String parameter : call.group(3).isEmpty() ? new String[0] : call.group(3).split(", ")) {
            text.append(' ').append(parameter.split(" ")[0]);
        }
        for (int at = heading + 1; at < readme.size() && !readme.get(at).startsWith("#"); at++) {
            Matcher thrown = THROWN.matcher(readme.get(at));
            if (thrown.matches()) {
                text.append(' ').append(thrown.group(1)).append(' ').append(thrown.group(2));
            }
            text.append(readme.get(at).startsWith("Refused: ") ? " leaves" : "");
        }
        return text.toString();
    }

    public static void main(String[] args) {
        List<String> readme = readme();
        List<Method> face = face();
        firstUse(readme, names(face));
        calls(readme, face);
        end();
    }
}
