import java.io.IOException;
import java.lang.reflect.Method;
import java.lang.reflect.Modifier;
import java.nio.file.Files;
import java.nio.file.Path;
import java.util.List;
import java.util.regex.Matcher;
import java.util.regex.Pattern;
import java.util.stream.Collectors;
import java.util.stream.Stream;

/** README.md: its example answers what it says, and it leaves out no call, no class inside and no test. */
public final class ReadmeTest {
    private static final Check check = new Check();
    private static final Pattern FED = Pattern.compile("for \\(char c : \"([^\"]*)\"");
    private static final Pattern CALL = Pattern.compile("^lift\\.(\\w+)\\(([-0-9, ]*)\\); +// (-?\\d+)");

    public static void main(String[] args) throws IOException, ReflectiveOperationException {
        String page = Files.readString(Path.of("README.md"));
        example(page);
        calls(page);
        classes(page);
        tests(page);
        check.end();
    }

    private static void example(String page) throws ReflectiveOperationException {
        int from = page.indexOf("```java\n");
        int to = page.indexOf("```", from + 1);
        check.holds("there is an example", from >= 0 && to > from);
        DishLift lift = new DishLift();
        int answered = 0;
        for (String line : page.substring(Math.max(0, from), Math.max(0, to)).split("\n")) {
            Matcher fed = FED.matcher(line);
            if (fed.find()) {
                fed.group(1).chars().forEach(lift::feed);
            }
            boolean isCall = line.startsWith("lift.");
            Matcher call = CALL.matcher(line);
            boolean tells = call.find();
            check.holds("a call with its answer: " + line, isCall == tells);
            if (tells) {
                answered++;
                check.due(line, answer(lift, call.group(1), call.group(2)), Long.parseLong(call.group(3)));
            }
        }
        check.holds("the example has calls", answered > 10);
    }

    private static long answer(DishLift lift, String name, String numbers) throws ReflectiveOperationException {
        Object[] all = Stream.of(numbers.split(", ")).filter(s -> !s.isEmpty()).map(Integer::valueOf).toArray();
        Class<?>[] types = Stream.of(all).map(one -> int.class).toArray(Class<?>[]::new);
        return ((Number) DishLift.class.getMethod(name, types).invoke(lift, all)).longValue();
    }

    private static void calls(String page) {
        int from = page.indexOf("### The calls");
        int to = page.indexOf("### ", from + 1);
        String table = page.substring(Math.max(0, from), Math.max(0, to));
        for (Method one : DishLift.class.getDeclaredMethods()) {
            if (Modifier.isPublic(one.getModifiers())) {
                check.holds("the table of calls has " + one.getName(), table.contains("`" + one.getName() + "`"));
            }
        }
        for (String refused : List.of("`NONE` " + DishLift.NONE, "`BAD` " + DishLift.BAD, "`STATE` " + DishLift.STATE,
                "`FULL` " + DishLift.FULL)) {
            check.holds("the table of answers has " + refused, page.contains("| " + refused + " |"));
        }
    }

    private static void classes(String page) {
        for (Class<?> inside : DishLift.class.getDeclaredClasses()) {
            String row = "| `" + inside.getSimpleName() + "` |";
            check.holds("the table of classes has " + row, page.contains(row));
        }
    }

    private static void tests(String page) throws IOException {
        List<String> names;
        try (Stream<Path> files = Files.list(Path.of("src/test/java"))) {
            names = files.map(file -> file.getFileName().toString()).filter(name -> name.endsWith("Test.java"))
                .map(name -> name.substring(0, name.length() - ".java".length())).collect(Collectors.toList());
        }
        for (String name : names) {
            check.holds("the table of tests has " + name, page.contains("| `" + name + "` |"));
        }
        Matcher told = Pattern.compile("`(\\w+Test)\\b").matcher(page);
        while (told.find()) {
            check.holds(told.group(1) + " is a test", names.contains(told.group(1)));
        }
    }
}
