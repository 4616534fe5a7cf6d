import java.io.IOException;
import java.lang.reflect.Method;
import java.nio.file.Files;
import java.nio.file.Path;
import java.util.Arrays;
import java.util.List;
import java.util.regex.Matcher;
import java.util.regex.Pattern;
import java.util.stream.Stream;

/** That README.md's calls, one after another, answer as README.md says, and that it names every call. */
final class ReadmeTest {
    private static final Due DUE = new Due();
    private static final Pattern TYPED = Pattern.compile("^type\\(logs, \"([^\"]*)\"\\);$");
    private static final Pattern ASKED = Pattern.compile("^logs\\.(\\w+)\\(([^)]*)\\);\\s+// (-?\\d+|true|false)\\b.*$");

    public static void main(String[] args) throws IOException, ReflectiveOperationException {
        List<String> lines = Files.readAllLines(Path.of("README.md"));
        SluiceLogs logs = new SluiceLogs();
        int asked = 0;
        for (String line : lines) {
            Matcher typed = TYPED.matcher(line);
            Matcher call = ASKED.matcher(line);
            if (typed.matches()) {
                Due.type(logs, typed.group(1));
            } else if (call.matches()) {
                String answer = answer(logs, call.group(1), call.group(2));
                DUE.due("\"" + line + "\": as it is " + answer + ", that it is so", answer.equals(call.group(3)), true);
                asked++;
            }
        }
        long stand = lines.stream().filter(line -> line.startsWith("logs.")).count();
        DUE.due("every call that stands there is asked", asked, stand);
        DUE.due("there are some", asked > 20, true);
        namesEveryCall(String.join("\n", lines));
        DUE.end();
    }

    private static String answer(SluiceLogs logs, String name, String arguments) throws ReflectiveOperationException {
        Method method = Stream.of(SluiceLogs.class.getMethods()).filter(one -> one.getName().equals(name)).findFirst().orElseThrow();
        Object[] values = Arrays.stream(arguments.split(", ")).filter(value -> !value.isEmpty())
                .map(value -> value.matches("true|false") ? (Object) Boolean.valueOf(value) : Integer.valueOf(value)).toArray();
        return String.valueOf(method.invoke(logs, values));
    }

    private static void namesEveryCall(String text) {
        for (Method method : SluiceLogs.class.getDeclaredMethods()) {
            if (java.lang.reflect.Modifier.isPublic(method.getModifiers())) {
                DUE.due("README.md names " + method.getName(), Pattern.compile("`" + method.getName() + "`|logs\\."
                        + method.getName() + "\\(").matcher(text).find(), true);
            }
        }
    }
}
