import java.lang.reflect.Constructor;
import java.lang.reflect.Field;
import java.lang.reflect.Method;
import java.lang.reflect.Modifier;
import java.util.Arrays;
import java.util.Random;
import java.util.TreeSet;

/**
 * The class shows the document's face and nothing else, and no call ever throws, whatever its arguments, also after the
 * 512 calls that the document promises for. What is not so is printed; exit code 1 if there is anything.
 */
public final class StampedHeapsFace {
    private static final String[] METHODS = {
        "int make(int, int, int)", "int load(int, int, int, int)", "boolean store(int, int, int, int)",
        "boolean move(int, int, int, int)", "boolean drop(int, int)", "int collect(int)", "boolean deliver(int)",
        "int round()", "int root(int, int)", "int field(int, int)", "int owner(int)", "int objects(int)",
        "int entry(int)", "int exit(int, int)", "int messages()", "int message(int, int)", "int redo(int)",
        "int threshold()"};
    private static final int[] WILD = {
        Integer.MIN_VALUE, Integer.MIN_VALUE + 1, -1073741824, -65536, -3, -2, -1, 0, 1, 2, 3, 4, 7, 8, 9, 24, 39, 40,
        41, 512, 513, 65536, 536870912, 715827882, 1073741824, 1431655765, Integer.MAX_VALUE - 1, Integer.MAX_VALUE};

    private static int wrong = 0;

    private static void same(String what, Object got, Object want) {
        if (!got.equals(want)) {
            wrong++;
            System.out.println(what + ": is " + got + ", due is " + want);
        }
    }

    private static String text(Method method) {
        StringBuilder text = new StringBuilder(method.getReturnType() + " " + method.getName() + "(");
        for (int k = 0; k < method.getParameterCount(); k++) {
            text.append(k == 0 ? "" : ", ").append(method.getParameterTypes()[k]);
        }
        return text.append(')').toString();
    }

    private static void face() {
        same("the class's modifiers", Modifier.toString(StampedHeaps.class.getModifiers()), "public final");
        TreeSet<String> open = new TreeSet<>();
        TreeSet<String> hidden = new TreeSet<>();
        for (Method method : StampedHeaps.class.getDeclaredMethods()) {
            if (Modifier.isPrivate(method.getModifiers())) {
                hidden.add(method.getName());
            } else {
                same(text(method), Modifier.toString(method.getModifiers()), "public");
                open.add(text(method));
            }
        }
        same("the methods", open, new TreeSet<>(Arrays.asList(METHODS)));
        for (String method : METHODS) {
            String name = method.substring(method.indexOf(' ') + 1, method.indexOf('('));
            same("a private method named " + name, hidden.contains(name), false);
        }
        TreeSet<String> fields = new TreeSet<>();
        for (Field field : StampedHeaps.class.getDeclaredFields()) {
            if (!Modifier.isPrivate(field.getModifiers())) {
                fields.add(Modifier.toString(field.getModifiers()) + " " + field.getType() + " " + field.getName());
            }
        }
        same("the constants", fields,
                new TreeSet<>(Arrays.asList("public static final int NEVER", "public static final int NONE")));
        Constructor<?>[] constructors = StampedHeaps.class.getDeclaredConstructors();
        same("how many constructors", constructors.length, 1);
        same("the constructor's modifiers", Modifier.toString(constructors[0].getModifiers()), "public");
        same("the constructor's parameters", constructors[0].getParameterCount(), 0);
    }

    /** Arguments of which all, some or none are wild. */
    private static int argument(Random random, int wildness) {
        return random.nextInt(10) < wildness ? WILD[random.nextInt(WILD.length)] : random.nextInt(3);
    }

    private static void wildCalls(int seed) {
        Random random = new Random(seed);
        Method[] methods = new Method[METHODS.length];
        for (Method method : StampedHeaps.class.getDeclaredMethods()) {
            int at = Arrays.asList(METHODS).indexOf(text(method));
            if (at >= 0) {
                methods[at] = method;
            }
        }
        StampedHeaps x = new StampedHeaps();
        for (int call = 0; call < 3000; call++) {
            Method method = methods[random.nextInt(methods.length)];
            Object[] arguments = new Object[method.getParameterCount()];
            for (int k = 0; k < arguments.length; k++) {
                arguments[k] = argument(random, seed % 11);
            }
            try {
                method.invoke(x, arguments);
            } catch (ReflectiveOperationException e) {
                wrong++;
                System.out.println(text(method) + " of " + Arrays.toString(arguments) + " threw " + e.getCause());
            }
        }
    }

    public static void main(String[] args) {
        face();
        for (int seed = 0; seed < 110 && wrong == 0; seed++) {
            wildCalls(seed);
        }
        System.out.println(wrong == 0 ? "the face is as due" : wrong + " things are not as due");
        if (wrong != 0) {
            System.exit(1);
        }
    }
}
