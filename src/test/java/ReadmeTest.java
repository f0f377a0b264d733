import java.lang.reflect.Method;
import java.lang.reflect.Modifier;
import java.nio.file.Files;
import java.nio.file.Path;
import java.util.regex.Matcher;
import java.util.regex.Pattern;

/** README.md is true: its example answers what it says, and it names every call. */
public final class ReadmeTest {
    static final Pattern TEXT = Pattern.compile("for \\(char c : \"([^\"]*)\"");
    static final Pattern CALL = Pattern.compile("(?m)^town\\.(\\w+)\\(([^)]*)\\); +// (-?\\d+)\\b");

    static int wrong = 0;

    static void due(String what, int got, int want) {
        if (got != want) {
            wrong++;
            System.out.println("README.md: " + what + " answered " + got + ", due is " + want);
        }
    }

    static int answer(ByInitials town, String name, String told) throws Exception {
        String[] parts = told.isEmpty() ? new String[0] : told.split(", ");
        Class<?>[] kinds = new Class<?>[parts.length];
        Object[] with = new Object[parts.length];
        for (int k = 0; k < parts.length; k++) {
            kinds[k] = int.class;
            with[k] = Integer.parseInt(parts[k]);
        }
        return (Integer) ByInitials.class.getMethod(name, kinds).invoke(town, with);
    }

    static void example(String readme) throws Exception {
        int start = readme.indexOf("```java");
        String code = readme.substring(start, readme.indexOf("```", start + 3));
        ByInitials town = new ByInitials();
        Matcher text = TEXT.matcher(code);
        due("a TEXT in the example", text.find() ? 1 : 0, 1);
        for (char c : text.group(1).toCharArray()) {
            town.write(c);
        }
        int calls = 0;
        for (Matcher m = CALL.matcher(code); m.find(); calls++) {
            due(m.group(1) + "(" + m.group(2) + ")", answer(town, m.group(1), m.group(2)), Integer.parseInt(m.group(3)));
        }
        due("lines of calls", calls, code.split("\ntown\\.").length - 1);
    }

    static void names(String readme) {
        for (Method m : ByInitials.class.getDeclaredMethods()) {
            if (Modifier.isPublic(m.getModifiers())) {
                due("`" + m.getName() + "`", readme.contains("`" + m.getName() + "`") ? 1 : 0, 1);
            }
        }
    }

    public static void main(String[] args) throws Exception {
        String readme = Files.readString(Path.of("README.md"));
        example(readme);
        names(readme);
        System.out.println(wrong == 0 ? "README.md is as the class is" : wrong + " faults");
        if (wrong != 0) {
            System.exit(1);
        }
    }
}
