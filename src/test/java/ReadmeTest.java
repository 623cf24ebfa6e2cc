import java.io.IOException;
import java.lang.reflect.InvocationTargetException;
import java.lang.reflect.Method;
import java.lang.reflect.Modifier;
import java.nio.file.Files;
import java.nio.file.Path;
import java.util.regex.Matcher;
import java.util.regex.Pattern;

/** README.md's example answers what it says there, and README.md names each call of the face. */
public final class ReadmeTest {
    private static final Pattern TELL = Pattern.compile("tell\\(mint, \"([^\"]*)\"\\); // (\\d)");
    private static final Pattern CALL = Pattern.compile("mint\\.(\\w+)\\(([-\\d, ]*)\\); +// (-?\\w+).*");

    public static void main(String[] args) throws IOException, IllegalAccessException {
        String readme = Files.readString(Path.of("README.md"));
        int asked = 0;
        NamedCoins mint = new NamedCoins();
        for (String line : readme.split("\n")) {
            Matcher tell = TELL.matcher(line);
            Matcher call = CALL.matcher(line);
            if (tell.matches()) {
                Check.due(line, Check.tell(mint, tell.group(1)), Integer.parseInt(tell.group(2)));
                asked++;
            } else if (call.matches()) {
                Check.same(line, answer(mint, call.group(1), call.group(2)), call.group(3));
                asked++;
            }
        }
        Check.due("calls in the example", asked, 16);
        for (Method method : NamedCoins.class.getDeclaredMethods()) {
            boolean isNamed = readme.contains("`" + method.getName() + "`");
            Check.due(method.getName() + " is named", isNamed || !Modifier.isPublic(method.getModifiers()), true);
        }
        Check.end("ReadmeTest");
    }

    private static String answer(NamedCoins mint, String name, String told) throws IllegalAccessException {
        String[] words = told.isEmpty() ? new String[0] : told.split(", ");
        Object[] arguments = new Object[words.length];
        for (int i = 0; i < words.length; i++) {
            arguments[i] = Integer.parseInt(words[i]);
        }
        for (Method method : NamedCoins.class.getDeclaredMethods()) {
            if (method.getName().equals(name) && method.getParameterCount() == words.length) {
                try {
                    return String.valueOf(method.invoke(mint, arguments));
                } catch (InvocationTargetException e) {
                    return e.getCause().getClass().getSimpleName();
                }
            }
        }
        return "no such call";
    }
}
