import java.lang.reflect.Method;
import java.lang.reflect.Modifier;
import java.nio.file.Files;
import java.nio.file.Path;
import java.util.regex.Matcher;
import java.util.regex.Pattern;

/** README.md tells true: its example answers as it says there, and it names every call of the face. */
public final class ReadmeTest {
    private static final Pattern TEXT = Pattern.compile("for \\(char letter : \"([^\"]*)\"");
    private static final Pattern CALL = Pattern.compile("^river\\.(\\w+)\\(([-0-9, ]*)\\); +// (-?\\d+): ", Pattern.MULTILINE);
    private static final Check CHECK = new Check("ReadmeTest");

    private static int answer(PaidToGoAway river, String name, String numbers) throws ReflectiveOperationException {
        String[] told = numbers.isBlank() ? new String[0] : numbers.split(", *");
        Class<?>[] places = new Class<?>[told.length];
        Object[] values = new Object[told.length];
        for (int i = 0; i < told.length; i++) {
            places[i] = int.class;
            values[i] = Integer.parseInt(told[i]);
        }
        return (int) PaidToGoAway.class.getMethod(name, places).invoke(river, values);
    }

    private static void exampleAnswersAsTold(String readme) throws ReflectiveOperationException {
        Matcher text = TEXT.matcher(readme);
        CHECK.due("the example has a text", text.find() ? 1 : 0, 1);
        PaidToGoAway river = Check.written(text.group(1));
        int calls = 0;
        for (Matcher call = CALL.matcher(readme); call.find(); calls++) {
            String name = call.group(1) + "(" + call.group(2) + ")";
            CHECK.due(name, answer(river, call.group(1), call.group(2)), Integer.parseInt(call.group(3)));
        }
        long lines = readme.lines().filter(line -> line.startsWith("river.")).count();
        CHECK.due("every line of the example is read", calls, lines);
    }

    private static void everyCallIsNamed(String readme) {
        for (Method method : PaidToGoAway.class.getDeclaredMethods()) {
            if (Modifier.isPublic(method.getModifiers())) {
                CHECK.due("names " + method.getName(), readme.contains("`" + method.getName() + "`") ? 1 : 0, 1);
            }
        }
    }

    public static void main(String[] args) throws Exception {
        String readme = Files.readString(Path.of("README.md"));
        exampleAnswersAsTold(readme);
        everyCallIsNamed(readme);
        CHECK.end();
    }
}
