import java.io.IOException;
import java.lang.reflect.Constructor;
import java.lang.reflect.Executable;
import java.lang.reflect.Field;
import java.lang.reflect.Method;
import java.lang.reflect.Modifier;
import java.nio.charset.StandardCharsets;
import java.nio.file.Files;
import java.nio.file.Path;
import java.util.ArrayList;
import java.util.Arrays;
import java.util.List;
import java.util.Set;
import java.util.TreeSet;
import java.util.regex.Matcher;
import java.util.regex.Pattern;

/** The face is the document's, and the source keeps to those rules of LANGUAGE.md that a program can see. */
public final class FormTest {
    private static final Check check = new Check();
    private static final Path SOURCE = Path.of("src/main/java/DishLift.java");
    private static final Path DOCUMENT = Path.of("../shared/DOC.md");

    public static void main(String[] args) throws IOException {
        face();
        classes();
        members();
        words();
        lengths();
        check.end();
    }

    private static String call(Executable e, String name, String type) {
        List<String> types = new ArrayList<>();
        for (Class<?> one : e.getParameterTypes()) {
            types.add(one.getSimpleName());
        }
        return type + " " + name + types;
    }

    private static void face() throws IOException {
        Set<String> due = new TreeSet<>();
        Matcher m = Pattern.compile("    public (int |long |)(\\w+)\\(([^)]*)\\);").matcher(Files.readString(DOCUMENT));
        while (m.find()) {
            List<String> types = new ArrayList<>();
            for (String one : m.group(3).split(", ")) {
                if (!one.isEmpty()) {
                    types.add(one.split(" ")[0]);
                }
            }
            due.add(m.group(1).trim() + " " + m.group(2) + types);
        }
        Set<String> got = new TreeSet<>();
        for (Method one : DishLift.class.getDeclaredMethods()) {
            if (!Modifier.isPrivate(one.getModifiers())) {
                got.add(call(one, one.getName(), one.getReturnType().getSimpleName()));
                check.holds(one + " is public and of the object", one.getModifiers() == Modifier.PUBLIC);
            }
        }
        for (Constructor<?> one : DishLift.class.getDeclaredConstructors()) {
            got.add(call(one, "DishLift", ""));
        }
        check.holds("the face is " + due + ", not " + got, due.equals(got) && due.size() == 38);
        check.holds("public final", DishLift.class.getModifiers() == (Modifier.PUBLIC | Modifier.FINAL));
        Set<String> constants = new TreeSet<>();
        for (Field f : DishLift.class.getDeclaredFields()) {
            if (!Modifier.isPrivate(f.getModifiers())) {
                constants.add(f.getName());
            }
        }
        check.holds("constants " + constants, constants.equals(Set.of("NONE", "BAD", "STATE", "FULL")));
    }

    private static List<Class<?>> all() {
        List<Class<?>> all = new ArrayList<>(Arrays.asList(DishLift.class.getDeclaredClasses()));
        all.add(DishLift.class);
        return all;
    }

    private static void classes() {
        check.holds("at most 12 classes", all().size() <= 12);
        for (Class<?> inside : DishLift.class.getDeclaredClasses()) {
            int is = inside.getModifiers();
            check.holds(inside + " is static, not public", Modifier.isStatic(is) && !Modifier.isPublic(is));
            check.holds(inside + " has no classes inside", inside.getDeclaredClasses().length == 0);
        }
    }

    private static void members() {
        Set<String> face = new TreeSet<>();
        for (Method one : DishLift.class.getMethods()) {
            if (one.getDeclaringClass() == DishLift.class) {
                face.add(one.getName());
            }
        }
        for (Class<?> one : all()) {
            int fields = 0;
            for (Field f : one.getDeclaredFields()) {
                boolean isStatic = Modifier.isStatic(f.getModifiers());
                fields += isStatic ? 0 : 1;
                check.holds(f + " is final, if static", !isStatic || Modifier.isFinal(f.getModifiers()));
            }
            check.holds(one + " has at most 20 fields", fields <= 20);
            for (Method m : one.getDeclaredMethods()) {
                check.holds(m + " takes at most 7", m.getParameterCount() <= 7);
                check.holds(m + " bears a name of its own", Modifier.isPublic(m.getModifiers()) || !face.contains(m.getName()));
            }
        }
    }

    /** The source without its comments, texts and signs. */
    private static String bare() throws IOException {
        String source = Files.readString(SOURCE, StandardCharsets.ISO_8859_1);
        return source.replaceAll("(?s)/\\*.*?\\*/", "").replaceAll("//[^\n]*", "")
            .replaceAll("'(\\\\.|[^'\\\\])'", "0").replaceAll("\"(\\\\.|[^\"\\\\])*\"", "0");
    }

    private static void words() throws IOException {
        String bare = bare();
        for (String word : List.of("throw", "throws", "try", "catch", "synchronized", "assert", "package", "volatile",
                "native", "new Integer", "hashCode", "toString", "Thread", "Object", "var")) {
            check.holds("no " + word, !Pattern.compile("\\b" + word + "\\b").matcher(bare).find());
        }
        for (String sign : List.of("->", "::", "Exact", "static {", "@")) {
            check.holds("no " + sign, !bare.contains(sign));
        }
        Matcher imports = Pattern.compile("import ([^;]*);").matcher(bare);
        while (imports.find()) {
            check.holds("import " + imports.group(1), imports.group(1).equals("java.util.Arrays"));
        }
        Matcher calls = Pattern.compile("\\b(System|Arrays|Math|Integer|Long)\\.(\\w+)").matcher(bare);
        Set<String> may = Set.of("System.arraycopy", "Arrays.fill", "Math.max", "Math.min", "Integer.bitCount");
        while (calls.find()) {
            check.holds(calls.group(), may.contains(calls.group()));
        }
        String source = Files.readString(SOURCE, StandardCharsets.ISO_8859_1);
        check.holds("signs 10 and 32 to 126 alone", source.chars().allMatch(c -> c == 10 || c >= 32 && c <= 126));
    }

    private static void lengths() throws IOException {
        int begun = 0;
        int line = 0;
        for (String text : bare().split("\n")) {
            line++;
            if (text.matches("( {4}| {8})\\S.*\\) \\{")) {
                begun = line;
            } else if (text.matches("( {4}| {8})\\}")) {
                check.holds("a method of at most 60 lines, not that from " + begun, begun == 0 || line - begun < 60);
                begun = 0;
            }
        }
    }
}
