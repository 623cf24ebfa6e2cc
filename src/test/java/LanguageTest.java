import java.io.IOException;
import java.lang.reflect.Constructor;
import java.lang.reflect.Field;
import java.lang.reflect.Method;
import java.lang.reflect.Modifier;
import java.nio.file.Files;
import java.nio.file.Path;
import java.util.ArrayList;
import java.util.Arrays;
import java.util.List;
import java.util.Set;
import java.util.TreeSet;
import java.util.regex.Matcher;
import java.util.regex.Pattern;

/** The public face, and what of LANGUAGE.md can be seen by simple means. */
public final class LanguageTest {
    private static final String[] FACE = {
        "int feed(int,int,int,int,int)", "int mint(int) IllegalArgumentException", "int fault()",
        "int count(int) NoSuchElementException", "int person(int,int) NoSuchElementException",
        "int coin(int,int) NoSuchElementException", "int years(int)", "int give(int,int) NoSuchElementException",
        "int search(int) NoSuchElementException", "int pays(int,int) NoSuchElementException",
        "int anew(int,int) NoSuchElementException", "int undo()",
        "int then(int,int,int) NoSuchElementException IllegalArgumentException",
        "int has(int,int) NoSuchElementException IllegalArgumentException",
        "int later(int,int) NoSuchElementException IllegalArgumentException", "int next()",
        "int gets(int,int) NoSuchElementException",
        "int hands(int,int) NoSuchElementException IllegalArgumentException",
        "int crumbles(int) NoSuchElementException", "int comesTo(int) NoSuchElementException",
        "int steps(int,int) NoSuchElementException",
        "int toPay(int,int,int) NoSuchElementException IllegalArgumentException",
        "int change(int,int,int,int) NoSuchElementException IllegalArgumentException",
        "int share(int,int,int) NoSuchElementException IllegalArgumentException",
        "int lacks(int) NoSuchElementException",
        "int toName(int,int,int) NoSuchElementException IllegalArgumentException",
        "int see(int,int) NoSuchElementException", "int needy(int) NoSuchElementException",
        "int look(int) NoSuchElementException", "void forget()",
        "int thieves(int,int,int) NoSuchElementException IllegalArgumentException",
        "int game(int,int,int) NoSuchElementException IllegalArgumentException",
        "int ages(int,int,int) NoSuchElementException IllegalArgumentException", "void image()", "boolean restore()"};
    private static final String[] FORBIDDEN = {"\\bcatch\\b", "\\btry\\b", "->", "::", "\\bfinally\\b", "\\bsynchronized\\b",
        "\\bassert\\b", "\\bwhile\\b", "Exact\\b", "\\bSystem\\.(?!arraycopy\\b)", "\\bString\\.", "\\bprotected\\b",
        "\\bstatic \\{", "\\bhashCode\\b", "\\btoString\\b", "\\bRandom\\b", "\\bObject\\b"};

    public static void main(String[] args) throws IOException {
        face();
        nestedClasses();
        String source = Files.readString(Path.of("src/main/java/NamedCoins.java"));
        String code = source.replaceAll("(?s)/\\*.*?\\*/", "").replaceAll("//[^\n]*", "").replaceAll("\"[^\"\n]*\"", "\"\"");
        words(code);
        methods(source);
        Check.end("LanguageTest");
    }

    private static void face() {
        Set<String> found = new TreeSet<>();
        Set<String> publicNames = new TreeSet<>();
        for (Method method : NamedCoins.class.getDeclaredMethods()) {
            if (Modifier.isPublic(method.getModifiers())) {
                found.add(signature(method));
                publicNames.add(method.getName());
            }
        }
        Set<String> due = new TreeSet<>(Arrays.asList(FACE));
        Check.due("face " + found + " is as told", found.equals(due), true);
        for (Method method : NamedCoins.class.getDeclaredMethods()) {
            boolean isPrivate = Modifier.isPrivate(method.getModifiers());
            Check.due(method + " is of the face or private", Modifier.isPublic(method.getModifiers()) || isPrivate, true);
            Check.due(method + " bears a name of the face", isPrivate && publicNames.contains(method.getName()), false);
        }
        for (Field field : NamedCoins.class.getDeclaredFields()) {
            boolean isNone = field.getName().equals("NONE") && Modifier.isPublic(field.getModifiers());
            Check.due(field + " is of the face or private", isNone || Modifier.isPrivate(field.getModifiers()), true);
        }
        Constructor<?>[] constructors = NamedCoins.class.getDeclaredConstructors();
        Check.due("constructors", constructors.length, 1);
        Check.due("final", Modifier.isFinal(NamedCoins.class.getModifiers()), true);
    }

    private static String signature(Method method) {
        List<String> types = new ArrayList<>();
        for (Class<?> type : method.getParameterTypes()) {
            types.add(type.getSimpleName());
        }
        StringBuilder signature = new StringBuilder(method.getReturnType().getSimpleName()).append(' ');
        signature.append(method.getName()).append('(').append(String.join(",", types)).append(')');
        for (Class<?> type : method.getExceptionTypes()) {
            signature.append(' ').append(type.getSimpleName());
        }
        return signature.toString();
    }

    private static void nestedClasses() {
        Class<?>[] nested = NamedCoins.class.getDeclaredClasses();
        Check.due("at most twelve classes", nested.length < 12, true);
        for (Class<?> type : nested) {
            Check.due(type + " is static", Modifier.isStatic(type.getModifiers()), true);
            int fields = 0;
            for (Field field : type.getDeclaredFields()) {
                boolean isStatic = Modifier.isStatic(field.getModifiers());
                Check.due(field + " is final, if static", !isStatic || Modifier.isFinal(field.getModifiers()), true);
                fields += isStatic ? 0 : 1;
            }
            Check.due(type + " has at most twenty fields", fields <= 20, true);
            for (Method method : type.getDeclaredMethods()) {
                Check.due(method + " has at most seven parameters", method.getParameterCount() <= 7, true);
            }
        }
    }

    private static void words(String code) {
        for (String forbidden : FORBIDDEN) {
            Check.due(forbidden + " in the source", Pattern.compile(forbidden).matcher(code).find(), false);
        }
        Matcher imports = Pattern.compile("import ([\\w.]+);").matcher(code);
        while (imports.find()) {
            String name = imports.group(1);
            Check.due(name, name.equals("java.util.Arrays") || name.equals("java.util.NoSuchElementException"), true);
        }
        Matcher calls = Pattern.compile("\\b(Math|Integer|Arrays|System)\\.(\\w+)").matcher(code);
        Set<String> allowed = Set.of("max", "min", "abs", "bitCount", "numberOfTrailingZeros", "fill", "arraycopy");
        while (calls.find()) {
            Check.due(calls.group(), allowed.contains(calls.group(2)), true);
        }
        Matcher thrown = Pattern.compile("throw new (\\w+)\\(").matcher(code);
        while (thrown.find()) {
            String name = thrown.group(1);
            boolean isTold = name.equals("NoSuchElementException") || name.equals("IllegalArgumentException");
            Check.due(name, isTold, true);
        }
        makesNothingInCalls(code);
    }

    /** Rows are made in fields and by the constructor: calls leave the room as it is, but for exceptions. */
    private static void makesNothingInCalls(String code) {
        boolean isConstructor = false;
        for (String line : code.split("\n")) {
            isConstructor |= line.contains("public NamedCoins() {");
            boolean isField = line.matches("\\s+(private )?(static )?final .*") || line.contains("throw new");
            Check.due("made in a call: " + line, line.contains("new ") && !isField && !isConstructor, false);
            isConstructor &= !line.equals("    }");
        }
    }

    private static void methods(String source) {
        int length = 0;
        String head = "";
        for (String line : source.split("\n")) {
            length++;
            if (line.matches("( {4}| {8})[\\w ]+\\(.*\\{")) {
                length = 0;
                head = line;
            }
            if (line.matches("( {4}| {8})\\}")) {
                Check.due("too long: " + head, length > 60, false);
            }
        }
    }
}
