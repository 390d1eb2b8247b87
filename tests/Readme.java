import java.io.IOException;
import java.lang.reflect.Method;
import java.lang.reflect.Modifier;
import java.nio.file.Files;
import java.nio.file.Path;
import java.util.ArrayList;
import java.util.HashMap;
import java.util.List;
import java.util.Map;
import java.util.TreeSet;
import java.util.regex.Matcher;
import java.util.regex.Pattern;

/** README.md: its tables name each call with what it throws, and its example answers what stands behind each call. */
public final class Readme {
    private static final Pattern ROW = Pattern.compile("\\| `(\\w+ \\w+)\\((.*?)\\)` \\|(.*)\\|(.*)\\|");
    private static final Pattern EXCEPTION = Pattern.compile("`(\\w+Exception)`: [^;]+");
    private static final Pattern STEP = Pattern.compile("(?:int (\\w+) = )?ship\\.(\\w+)\\((.*?)\\); +// ([-\\w]+).*");

    public static void main(String[] args) throws IOException {
        List<String> lines = Files.readAllLines(Path.of("README.md"));
        tables(lines);
        example(lines);
        Due.end();
    }

    private static void tables(List<String> lines) {
        List<String> told = new ArrayList<>();
        for (String line : lines) {
            Matcher row = ROW.matcher(line);
            if (!row.matches()) continue;
            Due.is(row.group(1) + ": it is told what it does", false, () -> row.group(3).isBlank());
            int count = row.group(2).isEmpty() ? 0 : row.group(2).split(", ").length;
            told.add(call(row.group(1), count, exceptionsOf(row.group(4))));
        }
        List<String> face = new ArrayList<>();
        for (Method method : CargoHeel.class.getDeclaredMethods()) {
            if (Modifier.isPublic(method.getModifiers())) face.add(call(method));
        }
        // A call that is told twice would be lost in a set alone.
        Due.is("the rows of the tables", face.size(), told::size);
        Due.is("the calls of the tables", new TreeSet<>(face), () -> new TreeSet<>(told));
    }

    private static List<String> exceptionsOf(String cell) {
        List<String> all = new ArrayList<>();
        Matcher exception = EXCEPTION.matcher(cell);
        while (exception.find()) all.add(exception.group(1));
        return all;
    }

    private static String call(Method method) {
        List<String> thrown = new ArrayList<>();
        for (Class<?> type : method.getExceptionTypes()) thrown.add(type.getSimpleName());
        return call(method.getReturnType() + " " + method.getName(), method.getParameterCount(), thrown);
    }

    private static String call(String name, int parameters, List<String> thrown) {
        return name + "/" + parameters + " throws " + thrown;
    }

    private static void example(List<String> lines) {
        int first = lines.indexOf("```java") + 1;
        Due.is("the example", true, () -> first > 0 && lines.get(first).equals("CargoHeel ship = new CargoHeel();"));
        CargoHeel ship = new CargoHeel();
        Map<String, String> names = new HashMap<>();
        int steps = 0;
        for (int i = first + 1; i < lines.size() && !lines.get(i).equals("```"); i++) {
            step(ship, lines.get(i), names);
            steps++;
        }
        int all = steps;
        Due.is("the example has steps", true, () -> all > 10);
    }

    private static void step(CargoHeel ship, String line, Map<String, String> names) {
        Matcher step = STEP.matcher(line);
        if (!step.matches()) {
            Due.equal("[README.md] " + line, "a call and its answer", "none");
            return;
        }
        String[] texts = step.group(3).isEmpty() ? new String[0] : step.group(3).split(", ");
        int[] args = new int[texts.length];
        for (int i = 0; i < args.length; i++) args[i] = number(texts[i], names);
        Call call = new Call(step.group(2), args);
        String got = call.told(ship);
        Due.equal("[README.md] " + call, due(step.group(4)), got);
        if (step.group(1) != null) names.put(step.group(1), got);
    }

    private static String due(String answer) {
        if (answer.endsWith("Exception")) return "throws." + answer;
        return answer.equals("true") ? "1" : answer.equals("false") ? "0" : answer;
    }

    private static int number(String text, Map<String, String> names) {
        if (!text.startsWith("CargoHeel.")) return Integer.parseInt(names.getOrDefault(text, text));
        try {
            return CargoHeel.class.getField(text.substring("CargoHeel.".length())).getInt(null);
        } catch (ReflectiveOperationException e) {
            throw new AssertionError(text + " is no constant of the face", e);
        }
    }
}
