import java.io.IOException;
import java.lang.reflect.Method;
import java.lang.reflect.Modifier;
import java.nio.file.Files;
import java.nio.file.Path;
import java.util.HashSet;
import java.util.Set;
import java.util.regex.Matcher;
import java.util.regex.Pattern;

/** What README.md tells of calls is so: its lines are made on one object, from the first to the last, each answer held to. */
public final class ReadmeTest {
    private static final Check check = new Check();
    private static final Pattern MADE = Pattern.compile("MilkRound x = new MilkRound\\(\\);");
    private static final Pattern TEXT = Pattern.compile("for \\(char sign : \"(.*)\"\\.toCharArray\\(\\)\\) \\{");
    private static final Pattern CALL = Pattern.compile("x\\.(\\w+)\\((.*)\\); *// (-?\\d+|[A-Z]+)(:.*)?");
    private static final Pattern INSIDE_LOOP = Pattern.compile(" +x\\.letter\\(sign\\);|\\}");

    private static MilkRound x;
    private static final Set<String> told = new HashSet<>();

    public static void main(String[] args) throws IOException, ReflectiveOperationException {
        String page = Files.readString(Path.of("README.md"));
        boolean inCode = false;
        for (String line : page.split("\n")) {
            if (line.startsWith("```")) {
                inCode = line.equals("```java");
            } else if (inCode) {
                follow(line);
            }
        }
        for (Method method : MilkRound.class.getDeclaredMethods()) {
            if (Modifier.isPublic(method.getModifiers())) {
                check.due(method.getName() + "() is used", told.contains(method.getName()) ? 1 : 0, 1);
                check.due(method.getName() + "() stands in the table", page.contains("| `" + method.getName() + "(") ? 1 : 0, 1);
            }
        }
        check.end();
    }

    private static void follow(String line) throws ReflectiveOperationException {
        Matcher text = TEXT.matcher(line);
        Matcher call = CALL.matcher(line);
        if (MADE.matcher(line).matches()) {
            x = new MilkRound();
        } else if (text.matches()) {
            Check.write(x, text.group(1));
        } else if (call.matches()) {
            told.add(call.group(1));
            check.due(line, answer(call.group(1), call.group(2)), number(call.group(3)));
        } else {
            check.due("'" + line + "' is understood", INSIDE_LOOP.matcher(line).matches() ? 1 : 0, 1);
        }
    }

    private static long answer(String name, String written) throws ReflectiveOperationException {
        String[] words = written.isEmpty() ? new String[0] : written.split(", ");
        for (Method method : MilkRound.class.getDeclaredMethods()) {
            if (method.getName().equals(name)) {
                Object[] arguments = new Object[words.length];
                for (int i = 0; i < words.length; i++) {
                    arguments[i] = argument(words[i]);
                }
                return ((Number) method.invoke(x, arguments)).longValue();
            }
        }
        throw new IllegalArgumentException("no call bears the name " + name);
    }

    private static Object argument(String word) {
        if (word.equals("true") || word.equals("false")) {
            return word.equals("true");
        }
        return word.startsWith("'") ? (int) word.charAt(1) : Integer.parseInt(word);
    }

    private static long number(String word) throws ReflectiveOperationException {
        return Character.isUpperCase(word.charAt(0)) ? MilkRound.class.getField(word).getInt(null) : Long.parseLong(word);
    }
}
