import java.io.IOException;
import java.lang.reflect.Method;
import java.nio.file.Files;
import java.nio.file.Path;
import java.util.List;
import java.util.regex.Matcher;
import java.util.regex.Pattern;

/** README.md, "Use": each call that it shows answers what stands behind it. */
public final class ReadmeTest {
    private static final Pattern CALL = Pattern.compile("p\\.(\\w+)\\(([-0-9, ]*)\\); +// (-?\\d+|true|false)(:.*)?");
    private static final String NEW = "CardPayments p = new CardPayments();";

    public static void main(String[] args) throws IOException, ReflectiveOperationException {
        List<String> lines = Files.readAllLines(Path.of("README.md"));
        CardPayments payments = null;
        boolean inCode = false;
        for (int i = 0; i < lines.size(); i++) {
            String line = lines.get(i);
            if (line.startsWith("```")) {
                inCode = line.equals("```java");
            } else if (inCode && line.equals(NEW)) {
                payments = new CardPayments();
            } else if (inCode) {
                Due.sentence("README.md, line " + (i + 1), line);
                look(payments, line);
            }
        }
        everyMethodIsShown(lines);
        Due.end();
    }

    private static void look(CardPayments payments, String line) throws ReflectiveOperationException {
        Matcher call = CALL.matcher(line);
        if (!call.matches() || payments == null) {
            Due.is("a call with its answer", false, true);
            return;
        }
        Method method = method(call.group(1));
        Object answer = method.invoke(payments, arguments(method, call.group(2)));
        Due.is("answer", answer.toString(), call.group(3));
    }

    private static Method method(String name) throws NoSuchMethodException {
        for (Method method : CardPayments.class.getDeclaredMethods()) {
            if (method.getName().equals(name)) {
                return method;
            }
        }
        throw new NoSuchMethodException(name);
    }

    private static Object[] arguments(Method method, String text) {
        Class<?>[] types = method.getParameterTypes();
        String[] words = text.isEmpty() ? new String[0] : text.split(", *");
        Object[] arguments = new Object[words.length];
        for (int i = 0; i < words.length; i++) {
            arguments[i] = i < types.length && types[i] == int.class
                ? (Object) Integer.valueOf(words[i]) : (Object) Long.valueOf(words[i]);
        }
        return arguments;
    }

    private static void everyMethodIsShown(List<String> lines) {
        Due.sentence("README.md", "Use");
        String text = String.join("\n", lines);
        for (Method method : CardPayments.class.getMethods()) {
            if (method.getDeclaringClass() == CardPayments.class) {
                Due.is(method.getName() + " is shown", text.contains("\np." + method.getName() + "("), true);
            }
        }
    }
}
