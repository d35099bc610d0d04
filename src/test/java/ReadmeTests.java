import java.io.IOException;
import java.lang.reflect.Method;
import java.lang.reflect.Modifier;
import java.nio.file.Files;
import java.nio.file.Path;
import java.util.ArrayList;
import java.util.List;
import java.util.regex.Matcher;
import java.util.regex.Pattern;

/** What README.md tells of the class: each answer of its example is due, and every call is named. */
public final class ReadmeTests {
    private static final Pattern TEXT = Pattern.compile("for \\(char letter : \"(.*)\"\\.toCharArray.*");
    private static final Pattern CALL = Pattern.compile("x\\.(\\w+)\\((.*)\\); *// (-?\\d+):.*");
    private static final List<String> wrong = new ArrayList<>();
    private static int checks = 0;

    private static Method method(String name) {
        for (Method method : CogFamily.class.getDeclaredMethods()) {
            if (Modifier.isPublic(method.getModifiers()) && method.getName().equals(name)) {
                return method;
            }
        }
        throw new IllegalStateException("no such call: " + name);
    }

    private static Object argument(String word) {
        return switch (word) {
            case "true", "false" -> Boolean.valueOf(word);
            case "CogFamily.NONE" -> CogFamily.NONE;
            default -> Integer.valueOf(word);
        };
    }

    private static void ask(CogFamily x, String name, String words, int want) throws ReflectiveOperationException {
        Object[] arguments = words.isEmpty() ? new Object[0] : List.of(words.split(", ")).stream().map(ReadmeTests::argument).toArray();
        int got = (int) method(name).invoke(x, arguments);
        checks++;
        if (got != want) {
            wrong.add("README: x." + name + "(" + words + ") answered " + got + ", told is " + want);
        }
    }

    private static void example(List<String> lines) throws ReflectiveOperationException {
        CogFamily x = new CogFamily();
        for (String line : lines) {
            Matcher text = TEXT.matcher(line.strip());
            Matcher call = CALL.matcher(line.strip());
            if (text.matches()) {
                for (char letter : text.group(1).toCharArray()) {
                    x.feed(letter);
                }
            } else if (call.matches()) {
                ask(x, call.group(1), call.group(2), Integer.parseInt(call.group(3)));
            } else if (line.startsWith("x.")) {
                wrong.add("README: what is due is not told: " + line);
            }
        }
    }

    private static void names(String page) {
        for (Method method : CogFamily.class.getDeclaredMethods()) {
            if (Modifier.isPublic(method.getModifiers())) {
                checks++;
                if (!page.contains("`" + method.getName() + "`")) {
                    wrong.add("README: " + method.getName() + " is not named");
                }
            }
        }
    }

    public static void main(String[] args) throws IOException, ReflectiveOperationException {
        String page = Files.readString(Path.of("README.md"));
        int from = page.indexOf("```java\n");
        int to = page.indexOf("```\n", from + 1);
        example(page.substring(from, to).lines().toList());
        names(page);
        if (checks < 33 + 20) {
            wrong.add("README: only " + checks + " lines of it could be read");
        }
        for (String line : wrong) {
            System.out.println(line);
        }
        System.out.println("ReadmeTests: " + checks + " lines looked at, " + wrong.size() + " wrong");
        if (!wrong.isEmpty()) {
            System.exit(1);
        }
    }
}
