import java.io.IOException;
import java.lang.reflect.Constructor;
import java.lang.reflect.Field;
import java.lang.reflect.Method;
import java.lang.reflect.Modifier;
import java.nio.charset.StandardCharsets;
import java.nio.file.Files;
import java.nio.file.Path;
import java.util.Set;
import java.util.TreeSet;
import java.util.regex.Matcher;
import java.util.regex.Pattern;

/** The face of the class is the document's, and its file keeps to what ../shared/LANGUAGE.md says. */
public final class FaceRuns {
    private static final String FACE = """
        int set(int,int,int,int)
        int of(int,int,int)
        int feed(int)
        int table(int)
        int value(int,int,int)
        int kept(int,int)
        int swap(int,int,int)
        int row(int,int,int)
        long pinched(int)
        int behind(int,int,int)
        int period(int,int)
        int fibre(int,int)
        int base(int)
        int rank(int)
        int cycles(int,int)
        int degree(int,int,int)
        int tell(int,int)
        int forget(int,int)
        int told(int)
        int moved(int)
        int move()
        int grows(int)
        long were(int,int,int,int,int,int)
        long odds(int,int,int,int)
        int plan(int,int)
        int ends(int,int)
        int write(int)
        int paper(int)
        int judge(int,int,int)
        int list(int,int)
        int put(int,int,int)
        long get(int,int)
        int image()
        int undo()
        int count(int)
        """;
    private static int wrong = 0;

    private static void due(String what, Object got, Object want) {
        if (!got.equals(want)) {
            wrong++;
            System.out.println("FaceRuns: " + what + " is " + got + ", due is " + want);
        }
    }

    public static void main(String[] args) throws IllegalAccessException, IOException {
        members();
        source(Files.readString(Path.of("src/main/java/KeptCurves.java"), StandardCharsets.ISO_8859_1));
        System.out.println(wrong == 0 ? "FaceRuns: all is as due" : "FaceRuns: " + wrong + " are not as due");
        if (wrong != 0) {
            System.exit(1);
        }
    }

    private static void members() throws IllegalAccessException {
        due("the class public and final", KeptCurves.class.getModifiers(), Modifier.PUBLIC | Modifier.FINAL);
        Set<String> methods = new TreeSet<>();
        Set<String> names = new TreeSet<>();
        for (Method method : KeptCurves.class.getDeclaredMethods()) {
            if (!Modifier.isPrivate(method.getModifiers())) {
                StringBuilder types = new StringBuilder();
                for (Class<?> type : method.getParameterTypes()) {
                    types.append(types.length() == 0 ? "" : ",").append(type.getName());
                }
                methods.add(method.getReturnType().getName() + " " + method.getName() + "(" + types + ")");
                names.add(method.getName());
                due(method.getName() + "'s modifiers", method.getModifiers(), Modifier.PUBLIC);
            }
        }
        due("the methods", methods, new TreeSet<>(Set.of(FACE.strip().split("\\s*\n\\s*"))));
        for (Class<?> inside : KeptCurves.class.getDeclaredClasses()) {
            due(inside.getName() + " static", Modifier.isStatic(inside.getModifiers()), true);
            due(inside.getName() + " public", Modifier.isPublic(inside.getModifiers()), false);
            for (Method method : inside.getDeclaredMethods()) {
                due(method + " named as a public one", names.contains(method.getName()), false);
            }
        }
        for (Method method : KeptCurves.class.getDeclaredMethods()) {
            due(method + " private, named as a public one",
                Modifier.isPrivate(method.getModifiers()) && names.contains(method.getName()), false);
        }
        StringBuilder constants = new StringBuilder();
        for (Field field : KeptCurves.class.getDeclaredFields()) {
            if (!Modifier.isPrivate(field.getModifiers())) {
                due(field.getName() + "'s modifiers", field.getModifiers(), Modifier.PUBLIC | Modifier.STATIC | Modifier.FINAL);
                constants.append(field.getType().getName()).append(' ').append(field.getName()).append(' ').append(field.get(null)).append('\n');
            }
        }
        due("the constants", constants.toString(), "int NONE -1\nint BAD -2\nint STATE -3\nint FULL -4\nint NOT -5\n"
            + "int VOID -6\nint LOST -7\nlong NO -9223372036854775808\n");
        Constructor<?>[] constructors = KeptCurves.class.getDeclaredConstructors();
        due("how many constructors", constructors.length, 1);
        due("the constructor's modifiers", constructors[0].getModifiers(), Modifier.PUBLIC);
        due("the constructor's parameters", constructors[0].getParameterCount(), 0);
    }

    private static void source(String text) {
        due("all signs below 128", text.chars().allMatch(c -> c < 128), true);
        String code = text.replaceAll("(?s)/\\*.*?\\*/", " ").replaceAll("//[^\n]*", " ");
        Pattern ruledOut = Pattern.compile("\\b(import|package|throw|throws|try|catch|finally|synchronized|assert|protected|"
            + "\\w+Exact|hashCode|toString|instanceof|native|volatile|transient|Object|Thread|System(?!\\.arraycopy))\\b|->|::");
        Matcher matcher = ruledOut.matcher(code);
        while (matcher.find()) {
            due("a word in the file", matcher.group(), "ruled out");
        }
        int classes = 0;
        for (Matcher each = Pattern.compile("\\bclass \\w+").matcher(code); each.find();) {
            classes++;
        }
        due("at most twelve classes", classes <= 12, true);
        methodLengths(text.split("\n"));
    }

    /** A method starts at a line that ends with ') {' and no word of a statement, and ends at the brace below it. */
    private static void methodLengths(String[] lines) {
        for (int i = 0; i < lines.length; i++) {
            String line = lines[i];
            boolean starts = line.endsWith(") {") && !line.matches("\\s*(\\}|if|for|while|switch|else|do)\\b.*") && !line.contains("} else");
            if (starts) {
                String indent = line.substring(0, line.length() - line.stripLeading().length());
                int end = i;
                while (end < lines.length && !lines[end].equals(indent + "}")) {
                    end++;
                }
                due("a method of at most sixty lines: " + line.strip(), end - i <= 60, true);
                due("at most seven parameters: " + line.strip(), line.chars().filter(c -> c == ',').count() <= 6, true);
            }
        }
    }
}
