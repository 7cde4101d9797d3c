import java.lang.reflect.Method;
import java.util.Arrays;
import java.util.Scanner;
import java.util.Set;
import java.util.TreeSet;
import java.util.regex.Matcher;
import java.util.regex.Pattern;

/** Each example of README.md, which is read from standard input, answers as it says. */
public final class ReadmeTest {
    private static final Pattern MAKING = Pattern.compile("FeedbackBreaker x = new FeedbackBreaker\\((-?\\d+)\\);");
    private static final Pattern CALL = Pattern.compile("x\\.(\\w+)\\(([-\\d, ]*)\\); +// (-?\\d+)(: .+)?");

    private static final Due due = new Due();
    private static final Set<String> shown = new TreeSet<>();
    private static FeedbackBreaker x = new FeedbackBreaker(2);

    public static void main(String[] args) throws ReflectiveOperationException {
        Scanner readme = new Scanner(System.in, "UTF-8");
        boolean inside = false;
        while (readme.hasNextLine()) {
            String line = readme.nextLine();
            if (line.startsWith("```")) {
                inside = line.equals("```java");
            } else if (inside) {
                example(line);
            }
        }
        everyMethodIsShown();
        due.exit();
    }

    private static void example(String line) throws ReflectiveOperationException {
        Matcher making = MAKING.matcher(line);
        Matcher call = CALL.matcher(line);
        if (making.matches()) {
            x = new FeedbackBreaker(Integer.parseInt(making.group(1)));
        } else if (call.matches()) {
            shown.add(call.group(1));
            due.same(line, Integer.toString(answer(call.group(1), call.group(2))), call.group(3));
        } else {
            due.same(line, "no", "an example that can be run");
        }
    }

    private static int answer(String name, String numbers) throws ReflectiveOperationException {
        Object[] values = numbers.isEmpty() ? new Object[0]
                : Arrays.stream(numbers.split(", ")).map(Integer::valueOf).toArray();
        Class<?>[] types = new Class<?>[values.length];
        Arrays.fill(types, int.class);
        return (int) FeedbackBreaker.class.getMethod(name, types).invoke(x, values);
    }

    private static void everyMethodIsShown() {
        for (Method method : FeedbackBreaker.class.getMethods()) {
            if (method.getDeclaringClass() == FeedbackBreaker.class) {
                due.is("examples show " + method.getName(), shown.contains(method.getName()) ? 1 : 0, 1);
            }
        }
    }
}
