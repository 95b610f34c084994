import java.io.IOException;
import java.lang.reflect.Method;
import java.lang.reflect.Modifier;
import java.nio.charset.StandardCharsets;
import java.nio.file.Files;
import java.nio.file.Path;
import java.util.TreeSet;
import java.util.regex.Matcher;
import java.util.regex.Pattern;

/** README.md shows one run of calls on a new object, each with its answer: it must hold, and show every method. */
public final class ReadmeTests {
    private static final Pattern SHOWN = Pattern.compile("x\\.(\\w+)\\((.*)\\); +// (-?\\d+): .+");
    private static final String BEGINNING = "NineTongues x = new NineTongues();";
    private static int wrong = 0;

    private static void fault(boolean isFault, String what) {
        if (isFault) {
            wrong++;
            System.out.println(what);
        }
    }

    private static long number(String text) throws ReflectiveOperationException {
        if (text.startsWith("NineTongues.")) {
            return NineTongues.class.getField(text.substring(text.indexOf('.') + 1)).getInt(null);
        }
        return Long.decode(text.replaceAll("L$", ""));
    }

    private static Method named(String name) {
        for (Method method : NineTongues.class.getDeclaredMethods()) {
            if (Modifier.isPublic(method.getModifiers()) && method.getName().equals(name)) {
                return method;
            }
        }
        throw new IllegalArgumentException("README.md shows " + name + ", which is not there");
    }

    private static long answer(NineTongues x, String name, String told) throws ReflectiveOperationException {
        Method method = named(name);
        String[] numbers = told.isEmpty() ? new String[0] : told.split(", ");
        Object[] values = new Object[numbers.length];
        for (int i = 0; i < numbers.length; i++) {
            boolean isLong = method.getParameterTypes()[i] == long.class;
            values[i] = isLong ? (Object) number(numbers[i]) : (Object) Math.toIntExact(number(numbers[i]));
        }
        return ((Number) method.invoke(x, values)).longValue();
    }

    private static TreeSet<String> allNames() {
        TreeSet<String> names = new TreeSet<>();
        for (Method method : NineTongues.class.getDeclaredMethods()) {
            if (Modifier.isPublic(method.getModifiers())) {
                names.add(method.getName());
            }
        }
        return names;
    }

    private static void showAll(String readme) throws ReflectiveOperationException {
        NineTongues x = null;
        boolean inside = false;
        TreeSet<String> notShown = allNames();
        for (String line : readme.split("\n")) {
            if (line.startsWith("```")) {
                inside = line.equals("```java");
            } else if (inside && line.equals(BEGINNING)) {
                x = new NineTongues();
            } else if (inside) {
                Matcher shown = SHOWN.matcher(line);
                boolean isCall = x != null && shown.matches();
                fault(!isCall, "README.md: not a call with its answer: " + line);
                if (isCall) {
                    long got = answer(x, shown.group(1), shown.group(2));
                    fault(got != Long.parseLong(shown.group(3)), "README.md: " + line + " answered " + got);
                    notShown.remove(shown.group(1));
                }
            }
        }
        fault(!notShown.isEmpty(), "README.md does not show " + notShown);
    }

    public static void main(String[] args) throws IOException, ReflectiveOperationException {
        showAll(Files.readString(Path.of("README.md"), StandardCharsets.UTF_8));
        System.out.println(wrong == 0 ? "README.md holds" : wrong + " lines of README.md do not hold");
        if (wrong != 0) {
            System.exit(1);
        }
    }
}
