import java.io.IOException;
import java.lang.reflect.Constructor;
import java.lang.reflect.Field;
import java.lang.reflect.Method;
import java.lang.reflect.Modifier;
import java.nio.charset.StandardCharsets;
import java.nio.file.Files;
import java.nio.file.Path;
import java.util.ArrayList;
import java.util.List;
import java.util.TreeSet;
import java.util.regex.Matcher;
import java.util.regex.Pattern;

/** What of LANGUAGE.md can be seen from the compiled class and from the text of the program (its first argument). */
public final class LanguageTests {
    private static final String FACE = "alike(int,int,int,int) atFault(int) bears(int,int,int) best(int,int,int,int)"
        + " clear() common(int,int) cost(int,int,int,int) count(int) digest() end(int,int) endForm(int,int) fault()"
        + " form(int,int) formOf(int,int) from(int) gone(int,int) hush() image(int) length() middle()"
        + " pair(int,int,int,int) part(int) parts(int,int) put(int,int) rings(int) round(int,int,int,int) say(int)"
        + " sets() status(int) step(int,int) third(int,int) tongue(int,int,int) type(long,int) unlike(int,int)"
        + " which(int,int,int) word(int,int,int,int) worst()";
    private static final String[] FORBIDDEN = {
        "\\b(throw|throws|try|catch|finally|synchronized|assert|volatile|native|var|yield)\\b", "->", "::", "\\bstatic\\s*\\{",
        "\\b(System\\.(?!arraycopy)|Thread|Random|Object|Map|Set|Stream|Optional|Scanner|Runtime|Class)\\b",
        "\\b(Integer|Long|Byte|Short|Double|Float|Character|Boolean)\\.[A-Z]", "Exact\\b", "\\b(toString|equals|hashCode)\\b",
        "\\bwhile\\s*\\(\\s*true", "\"", "[^\\x09\\x0a\\x20-\\x7e]"};
    private static final int MOST_CLASSES = 12, MOST_FIELDS = 20, MOST_PARAMETERS = 7, MOST_LINES = 60;
    private static int wrong = 0;

    private static void fault(boolean isFault, String what) {
        if (isFault) {
            wrong++;
            System.out.println(what);
        }
    }

    private static String told(Method method) {
        List<String> types = new ArrayList<>();
        for (Class<?> type : method.getParameterTypes()) {
            types.add(type.getName());
        }
        return method.getName() + "(" + String.join(",", types) + ")";
    }

    private static void face() {
        TreeSet<String> open = new TreeSet<>();
        TreeSet<String> openNames = new TreeSet<>();
        for (Method method : NineTongues.class.getDeclaredMethods()) {
            if (!Modifier.isPrivate(method.getModifiers())) {
                fault(!Modifier.isPublic(method.getModifiers()), "not public, not private: " + method);
                Class<?> due = method.getName().equals("digest") ? long.class : int.class;
                fault(method.getReturnType() != due, "another answer: " + method);
                open.add(told(method));
                openNames.add(method.getName());
            }
        }
        TreeSet<String> due = new TreeSet<>(List.of(FACE.split(" ")));
        fault(!open.equals(due), "the face is " + open + ", due is " + due);
        for (Method method : NineTongues.class.getDeclaredMethods()) {
            boolean isPrivate = Modifier.isPrivate(method.getModifiers());
            fault(isPrivate && openNames.contains(method.getName()), "a private method with a public name: " + method);
        }
        for (Field field : NineTongues.class.getDeclaredFields()) {
            boolean isTold = List.of("NONE", "BAD", "NO", "FULL").contains(field.getName());
            int modifiers = field.getModifiers();
            fault(Modifier.isPublic(modifiers) != isTold || Modifier.isPrivate(modifiers) == isTold, "open: " + field);
        }
        Constructor<?>[] constructors = NineTongues.class.getDeclaredConstructors();
        fault(constructors.length != 1 || constructors[0].getParameterCount() != 0, "another constructor");
        fault(!Modifier.isFinal(NineTongues.class.getModifiers()), "not final");
    }

    private static void classes() {
        List<Class<?>> all = new ArrayList<>(List.of(NineTongues.class.getDeclaredClasses()));
        fault(all.size() + 1 > MOST_CLASSES, "too many classes: " + all.size());
        for (Class<?> inside : all) {
            fault(!Modifier.isStatic(inside.getModifiers()) || Modifier.isPublic(inside.getModifiers()), "class: " + inside);
        }
        all.add(NineTongues.class);
        for (Class<?> one : all) {
            int fields = 0;
            for (Field field : one.getDeclaredFields()) {
                boolean isStatic = Modifier.isStatic(field.getModifiers());
                fault(isStatic && !Modifier.isFinal(field.getModifiers()), "static state: " + field);
                fields += isStatic ? 0 : 1;
            }
            fault(fields > MOST_FIELDS, "too many fields: " + one);
            for (Method method : one.getDeclaredMethods()) {
                fault(method.getParameterCount() > MOST_PARAMETERS, "too many parameters: " + method);
            }
        }
    }

    private static void text(String program) {
        String bare = program.replaceAll("(?s)/\\*.*?\\*/", " ").replaceAll("//[^\n]*", " ");
        for (String pattern : FORBIDDEN) {
            Matcher found = Pattern.compile(pattern).matcher(bare);
            fault(found.find(), "the program holds what '" + pattern + "' tells");
        }
        Matcher imports = Pattern.compile("(?m)^import (.*);$").matcher(bare);
        while (imports.find()) {
            String name = imports.group(1);
            fault(!name.matches("java\\.util\\.(Arrays|List|ArrayList|Iterator)"), "import " + name);
        }
        Matcher methods = Pattern.compile("(?ms)^( +)[^\n=;]*\\([^\n]*\\) \\{$(.*?)^\\1\\}$").matcher(bare);
        while (methods.find()) {
            fault(methods.group(2).split("\n").length > MOST_LINES, "too long: " + methods.group());
        }
    }

    public static void main(String[] args) throws IOException {
        face();
        classes();
        text(Files.readString(Path.of(args.length > 0 ? args[0] : "src/main/java/NineTongues.java"), StandardCharsets.ISO_8859_1));
        System.out.println(wrong == 0 ? "the language is kept to" : wrong + " faults of language");
        if (wrong != 0) {
            System.exit(1);
        }
    }
}
