import java.io.IOException;
import java.lang.reflect.InvocationTargetException;
import java.lang.reflect.Method;
import java.lang.reflect.Modifier;
import java.nio.file.Files;
import java.nio.file.Path;
import java.util.TreeMap;
import java.util.TreeSet;
import java.util.Map;
import java.util.Set;
import java.util.regex.Matcher;
import java.util.regex.Pattern;

/** What README.md shows as an answer is what the class answers; it shows every call, and what each constant is. */
public final class ReadmeRuns {
    private static final Pattern MAKES = Pattern.compile("KeptCurves curves = new KeptCurves\\(\\);");
    private static final Pattern FEEDS = Pattern.compile("for \\(char letter : \"(.*)\"\\.toCharArray\\(\\)\\) \\{");
    private static final Pattern CALLS = Pattern.compile("curves\\.(\\w+)\\((.*)\\);\\s+// (-?\\d+)(?::.*)?");
    private static final Pattern NAMES = Pattern.compile("\\| (-\\d+|`Long\\.MIN_VALUE`) \\| `([A-Z]+)` \\|.*");

    private static final Map<String, Method> FACE = new TreeMap<>();
    private static final Set<String> SHOWN = new TreeSet<>();
    private static final Set<String> CONSTANTS = new TreeSet<>();
    private static KeptCurves curves = null;
    private static String fed = null;
    private static int wrong = 0;

    private static void wrong(String words) {
        wrong++;
        System.out.println("README.md: " + words);
    }

    public static void main(String[] args) throws IOException, IllegalAccessException, InvocationTargetException, NoSuchFieldException {
        for (Method method : KeptCurves.class.getDeclaredMethods()) {
            if (Modifier.isPublic(method.getModifiers())) {
                FACE.put(method.getName(), method);
            }
        }
        boolean isJava = false;
        for (String line : Files.readAllLines(Path.of("README.md"))) {
            if (line.startsWith("```")) {
                isJava = line.equals("```java");
            } else if (isJava) {
                line(line.strip());
            } else {
                constant(line);
            }
        }
        if (!SHOWN.equals(FACE.keySet())) {
            wrong("shows the calls " + SHOWN + ", there are " + FACE.keySet());
        }
        if (CONSTANTS.size() != 8) {
            wrong("tells the constants " + CONSTANTS + ", there are 8");
        }
        System.out.println(wrong == 0 ? "ReadmeRuns: all answers are as shown" : "ReadmeRuns: " + wrong + " are not as shown");
        if (wrong != 0) {
            System.exit(1);
        }
    }

    /** A line of a kind that is not known here would be shown, but not looked at, and so is wrong. */
    private static void line(String line) throws IllegalAccessException, InvocationTargetException {
        Matcher feeds = FEEDS.matcher(line);
        Matcher calls = CALLS.matcher(line);
        if (MAKES.matcher(line).matches()) {
            curves = new KeptCurves();
        } else if (feeds.matches()) {
            fed = feeds.group(1);
        } else if (line.equals("curves.feed(letter);") && fed != null && curves != null) {
            feedAll();
        } else if (calls.matches() && curves != null) {
            call(line, calls.group(1), calls.group(2), Long.parseLong(calls.group(3)));
        } else if (!line.equals("}")) {
            wrong("can't be looked at: " + line);
        }
    }

    private static void feedAll() {
        for (int i = 0; i < fed.length(); i++) {
            if (curves.feed(fed.charAt(i)) != i + 1) {
                wrong("THE TAPE was not empty ahead of " + fed);
            }
        }
        fed = null;
    }

    private static void call(String line, String name, String told, long want) throws IllegalAccessException, InvocationTargetException {
        Method method = FACE.get(name);
        String[] words = told.isEmpty() ? new String[0] : told.split(", ");
        if (method == null || method.getParameterCount() != words.length) {
            wrong("no such call: " + line);
            return;
        }
        Object[] arguments = new Object[words.length];
        for (int i = 0; i < words.length; i++) {
            arguments[i] = words[i].startsWith("'") ? words[i].charAt(1) : Integer.parseInt(words[i]);
        }
        long got = ((Number) method.invoke(curves, arguments)).longValue();
        SHOWN.add(name);
        if (got != want) {
            wrong(line + " answered " + got);
        }
    }

    private static void constant(String line) throws IllegalAccessException, NoSuchFieldException {
        Matcher names = NAMES.matcher(line);
        if (names.matches()) {
            long shown = names.group(1).startsWith("`") ? Long.MIN_VALUE : Long.parseLong(names.group(1));
            long is = ((Number) KeptCurves.class.getField(names.group(2)).get(null)).longValue();
            CONSTANTS.add(names.group(2));
            if (is != shown) {
                wrong(line + " is " + is);
            }
        }
    }
}
