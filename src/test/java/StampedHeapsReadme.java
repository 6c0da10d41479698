import java.io.IOException;
import java.lang.reflect.Method;
import java.lang.reflect.Modifier;
import java.nio.file.Files;
import java.nio.file.Path;
import java.util.ArrayList;
import java.util.List;
import java.util.TreeSet;
import java.util.regex.Matcher;
import java.util.regex.Pattern;

/**
 * What README.md tells of the class holds: each call in its examples answers what stands beside it, and its tables name
 * every call of the face, with as many parameters as it has, and no other. It is read in the directory in which the
 * test runs. What is not so is printed; exit code 1 if there is anything.
 */
public final class StampedHeapsReadme {
    private static final String NEW_OBJECT = "StampedHeaps x = new StampedHeaps();";
    private static final Pattern CALL = Pattern.compile("x\\.(\\w+)\\(([-0-9, ]*)\\); +// (-?\\w+)(: .+)?");
    private static final Pattern ROW = Pattern.compile("\\| `(\\w+)\\(([a-z, ]*)\\)` \\|.*");

    private static int wrong = 0;

    private static void say(String text) {
        wrong++;
        System.out.println(text);
    }

    private static List<String> parts(String list) {
        return list.isEmpty() ? List.of() : List.of(list.split(", "));
    }

    private static List<Method> face() {
        List<Method> face = new ArrayList<>();
        for (Method method : StampedHeaps.class.getDeclaredMethods()) {
            if (Modifier.isPublic(method.getModifiers())) {
                face.add(method);
            }
        }
        return face;
    }

    private static String answer(StampedHeaps x, String name, List<String> with) throws ReflectiveOperationException {
        for (Method method : face()) {
            if (method.getName().equals(name) && method.getParameterCount() == with.size()) {
                return String.valueOf(method.invoke(x, with.stream().map(Integer::valueOf).toArray()));
            }
        }
        return "nothing: there is no such call";
    }

    private static String value(String written) {
        return switch (written) {
            case "NONE" -> String.valueOf(StampedHeaps.NONE);
            case "NEVER" -> String.valueOf(StampedHeaps.NEVER);
            default -> written;
        };
    }

    /** Every line in a block of Java is a call with its answer, or makes a new object, or is empty. */
    private static void examples(List<String> lines) throws ReflectiveOperationException {
        boolean inBlock = false;
        int calls = 0;
        StampedHeaps x = new StampedHeaps();
        for (String line : lines) {
            Matcher call = CALL.matcher(line);
            if (line.startsWith("```")) {
                inBlock = line.equals("```java");
            } else if (inBlock && line.equals(NEW_OBJECT)) {
                x = new StampedHeaps();
            } else if (inBlock && call.matches()) {
                calls++;
                String got = answer(x, call.group(1), parts(call.group(2)));
                if (!got.equals(value(call.group(3)))) {
                    say("README.md: " + line + " .. answered " + got);
                }
            } else if (inBlock && !line.isEmpty()) {
                say("README.md: no call with its answer: " + line);
            }
        }
        if (calls == 0) {
            say("README.md has no example");
        }
    }

    private static void tables(List<String> lines) {
        List<String> told = new ArrayList<>();
        for (String line : lines) {
            Matcher row = ROW.matcher(line);
            if (row.matches()) {
                told.add(row.group(1) + " with " + parts(row.group(2)).size());
            }
        }
        TreeSet<String> due = new TreeSet<>();
        for (Method method : face()) {
            due.add(method.getName() + " with " + method.getParameterCount());
        }
        if (told.size() != due.size() || !due.equals(new TreeSet<>(told))) {
            say("README.md: its tables name " + told + ", the face is " + due);
        }
    }

    public static void main(String[] args) throws IOException, ReflectiveOperationException {
        List<String> lines = Files.readAllLines(Path.of("README.md"));
        examples(lines);
        tables(lines);
        System.out.println(wrong == 0 ? "README.md is as due" : wrong + " things are not as due");
        if (wrong != 0) {
            System.exit(1);
        }
    }
}
