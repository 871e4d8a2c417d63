import java.lang.reflect.Method;
import java.nio.file.Files;
import java.nio.file.Path;
import java.util.ArrayList;
import java.util.List;
import java.util.Set;
import java.util.TreeSet;
import java.util.regex.Matcher;
import java.util.regex.Pattern;

/** README.md: each call that it shows is made, in its order, and must answer what stands behind it. */
final class ReadmeTest {
    private static final Checks CHECKS = new Checks();
    private static final Pattern CALL = Pattern.compile("(?m)^x\\.(\\w+)\\((.*)\\); +// (-?\\w+):");

    public static void main(String[] args) throws Exception {
        String page = Files.readString(Path.of("README.md"));
        calls(page);
        typing(page);
        names(page);
        CHECKS.end();
    }

    private static String firstText(String page) {
        Matcher block = Pattern.compile("(?s)```text\n(.*?)\n```").matcher(page);
        return block.find() ? block.group(1) : "";
    }

    private static void calls(String page) throws Exception {
        CHECKS.promise("the page's calls");
        FaultWays x = new FaultWays();
        Checks.type(x, firstText(page));
        Matcher call = CALL.matcher(page);
        int made = 0;
        while (call.find()) {
            String shown = call.group(1) + "(" + call.group(2) + ")";
            CHECKS.due(shown, number(answer(x, call.group(1), call.group(2))), number(call.group(3)));
            made++;
        }
        CHECKS.due("calls that bear no answer", linesOfCalls(page) - made, 0);
        CHECKS.due("there are some", made > 30, true);
    }

    private static int linesOfCalls(String page) {
        return (int) page.lines().filter(line -> line.startsWith("x.")).count();
    }

    private static String answer(FaultWays x, String name, String shown) throws Exception {
        List<Object> given = new ArrayList<>();
        for (String one : shown.isEmpty() ? new String[0] : shown.split(", ")) {
            given.add(one.matches("true|false") ? (Object) Boolean.valueOf(one) : (Object) (int) number(one));
        }
        for (Method method : FaultWays.class.getMethods()) {
            if (method.getName().equals(name) && method.getParameterCount() == given.size()) {
                return String.valueOf(method.invoke(x, given.toArray()));
            }
        }
        throw new IllegalStateException(name);
    }

    private static long number(String shown) {
        return switch (shown) {
            case "true" -> 1;
            case "false" -> 0;
            case "FaultWays.NONE" -> FaultWays.NONE;
            default -> Long.parseLong(shown);
        };
    }

    /** The page's way to feed a text is the tests' own. */
    private static void typing(String page) throws Exception {
        CHECKS.promise("how a text is fed");
        String own = Files.readString(Path.of("src/test/java/Checks.java")).replaceAll("\\s+", " ");
        Matcher block = Pattern.compile("(?s)```java\n(static .*?)\n```").matcher(page);
        CHECKS.due("it is shown", block.find(), true);
        for (String method : block.group(1).split("\n\n")) {
            CHECKS.due(method, own.contains(method.replaceAll("\\s+", " ")), true);
        }
    }

    private static void names(String page) throws Exception {
        CHECKS.promise("the page names");
        Set<String> wanted = new TreeSet<>();
        for (Method method : FaultWays.class.getMethods()) {
            if (method.getDeclaringClass() == FaultWays.class) {
                wanted.add(method.getName());
            }
        }
        for (Class<?> inside : FaultWays.class.getDeclaredClasses()) {
            wanted.add(inside.getSimpleName());
        }
        try (var files = Files.list(Path.of("src/test/java"))) {
            files.forEach(file -> wanted.add(file.getFileName().toString().replace(".java", "")));
        }
        for (String name : wanted) {
            CHECKS.due(name, Pattern.compile("`" + name + "\\b").matcher(page).find(), true);
        }
    }
}
