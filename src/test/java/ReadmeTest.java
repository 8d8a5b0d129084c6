import java.io.IOException;
import java.lang.reflect.InvocationTargetException;
import java.lang.reflect.Method;
import java.lang.reflect.Modifier;
import java.nio.charset.StandardCharsets;
import java.nio.file.Files;
import java.nio.file.Path;
import java.util.regex.Matcher;
import java.util.regex.Pattern;

/** What README.md shows holds: each call of its example answers so; it names every call of the face. */
public final class ReadmeTest {
    private static final Pattern CALL = Pattern.compile("game\\.(\\w+)\\(([^)]*)\\);\\s*// (-?\\d+|true|false)\\b");

    private static final Checks CHECKS = new Checks();

    private ReadmeTest() {
    }

    public static void main(String[] args) throws IOException, ReflectiveOperationException {
        CHECKS.about("README.md");
        String readme = Files.readString(Path.of("README.md"), StandardCharsets.UTF_8);
        example(readme);
        names(readme);
        CHECKS.end("ReadmeTest");
    }

    private static void example(String readme) throws ReflectiveOperationException {
        int begin = readme.indexOf("```java");
        int end = readme.indexOf("```", begin + 3);
        CHECKS.due("an example", 1, begin >= 0 && end > begin ? 1 : 0);
        String code = readme.substring(Math.max(begin, 0), Math.max(end, Math.max(begin, 0)));
        SwitchGame game = new SwitchGame();
        int calls = 0;
        Matcher call = CALL.matcher(code);
        while (call.find()) {
            calls++;
            CHECKS.due(call.group(1) + "(" + call.group(2) + ")", numberOf(call.group(3)),
                    answer(game, call.group(1), call.group(2)));
        }
        CHECKS.due("calls whose answer is told", code.split("game\\.").length - 1, calls);
    }

    private static long numberOf(String told) {
        if (told.equals("true")) {
            return 1;
        }
        return told.equals("false") ? 0 : Long.parseLong(told);
    }

    private static long answer(SwitchGame game, String name, String written) throws ReflectiveOperationException {
        String[] parts = written.isBlank() ? new String[0] : written.split(",");
        Object[] numbers = new Object[parts.length];
        Class<?>[] types = new Class<?>[parts.length];
        for (int i = 0; i < parts.length; i++) {
            String part = parts[i].trim();
            numbers[i] = part.equals("SwitchGame.NONE") ? SwitchGame.NONE : Integer.decode(part);
            types[i] = int.class;
        }
        try {
            Object value = SwitchGame.class.getMethod(name, types).invoke(game, numbers);
            return value instanceof Boolean ? (Boolean) value ? 1 : 0 : ((Integer) value).longValue();
        } catch (InvocationTargetException e) {
            System.out.println(name + " throws " + e.getCause());
            return Long.MIN_VALUE;
        }
    }

    private static void names(String readme) {
        for (Method method : SwitchGame.class.getDeclaredMethods()) {
            if (Modifier.isPublic(method.getModifiers())) {
                boolean named = readme.contains("`" + method.getName() + "(");
                CHECKS.due("`" + method.getName() + "(..)` stands in it", 1, named ? 1 : 0);
            }
        }
    }
}
