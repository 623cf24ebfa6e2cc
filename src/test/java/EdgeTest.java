import java.io.IOException;
import java.lang.reflect.InvocationTargetException;
import java.lang.reflect.Method;
import java.nio.file.Files;
import java.nio.file.Path;
import java.util.Arrays;
import java.util.Comparator;

/**
 * Runs each test of an edge by its name, and looks whether the words that it holds to stand in the document.
 * With an argument it lists the tests with these words, too.
 */
public final class EdgeTest {
    private static final int PROMISES = 36;
    private static final Class<?>[] ALL = {TextEdges.class, FaultEdges.class, WorldEdges.class, YearEdges.class,
        ActEdges.class, ForesightEdges.class, PayeeEdges.class, SumEdges.class, GuessEdges.class, PlayEdges.class,
        ImageEdges.class};

    private static boolean isListing = false;

    public static void main(String[] args) throws IOException, IllegalAccessException {
        isListing = args.length > 0;
        Check.endWithin(120);
        String document = plain(Files.readString(Path.of("../shared/DOC.md")));
        int[] tests = new int[PROMISES + 1];
        int all = 0;
        for (Class<?> edges : ALL) {
            Method[] methods = edges.getDeclaredMethods();
            Arrays.sort(methods, Comparator.comparing(Method::getName));
            for (Method method : methods) {
                if (method.getName().startsWith("promise")) {
                    tests[runOne(method, document)]++;
                    all++;
                }
            }
        }
        for (int promise = 1; promise <= PROMISES; promise++) {
            Check.due("promise " + promise + " has tests of its edges", tests[promise] > 0, true);
        }
        System.out.println("EdgeTest: " + all + " edges");
        Check.end("EdgeTest");
    }

    /** The promise that the test is named after. */
    private static int runOne(Method method, String document) throws IllegalAccessException {
        Check.under(method.getName());
        int promise = Integer.parseInt(method.getName().substring(7, 9));
        Says says = method.getAnnotation(Says.class);
        Check.due("says what it holds to", says != null, true);
        if (says != null) {
            Check.due("'" + says.value() + "' in the document", document.contains(plain(says.value())), true);
            if (isListing) {
                System.out.println(method.getName() + ": " + says.value());
            }
        }
        int before = Check.done();
        try {
            method.invoke(null);
        } catch (InvocationTargetException e) {
            Check.same("what it threw", String.valueOf(e.getCause()), "nothing");
        }
        Check.due("asks anything", Check.done() > before, true);
        Check.under("");
        return promise;
    }

    private static String plain(String text) {
        return text.replaceAll("\\s+", " ");
    }
}
