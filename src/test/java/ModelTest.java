import java.lang.reflect.InvocationTargetException;
import java.lang.reflect.Method;
import java.util.ArrayList;
import java.util.List;
import java.util.Random;
import java.util.TreeMap;

/** Random runs of calls, each answered by NamedCoins and by the Model alike. Seeds are fixed. */
public final class ModelTest {
    private static final int RUNS = 1000;
    private static final int CALLS = 110;
    private static final String[] WORDS = {"person", "beggar", "pays", "coin", "minting", "names", "spends", "or", "and",
        "not", "need", "has", "coins", "year", "stocking", "worth", "theirs", "foo", "x"};
    private static final String[] SIGNS = {";", "(", ")", "+", "-", "*", "/", "<", "=", "!", "\t"};

    private final Random random;
    private final NamedCoins coins = new NamedCoins();
    private final Model model = new Model();
    private final List<String> told = new ArrayList<>();
    private boolean isSame = true;

    private ModelTest(long seed) {
        random = new Random(seed);
    }

    public static void main(String[] args) {
        TreeMap<String, Integer> answers = new TreeMap<>();
        int wrong = 0;
        for (int seed = 0; seed < RUNS && wrong < 5; seed++) {
            ModelTest run = new ModelTest(seed);
            run.go(answers);
            if (!run.isSame) {
                wrong++;
                System.out.println("seed " + seed + ":");
                run.told.forEach(System.out::println);
            }
        }
        Check.due("runs unlike the model", wrong, 0);
        Check.due("methods called", answers.size(), 35);
        if (args.length > 0) {
            System.out.println(answers);
        }
        Check.end("ModelTest");
    }

    private void go(TreeMap<String, Integer> answers) {
        Method[] methods = facesMethods();
        for (int i = 0; i < 4 && model.count(1) == 0; i++) {
            mintText();
        }
        for (int i = 0; i < CALLS && isSame; i++) {
            Method method = methods[random.nextInt(methods.length)];
            String name = method.getName();
            if (name.equals("feed") && random.nextInt(3) != 0) {
                continue;
            }
            if (name.equals("mint")) {
                if (random.nextInt(6) == 0) {
                    mintText();
                } else if (random.nextInt(5) == 0) {
                    call(name, random.nextInt(30) == 0 ? pick(0, 20) : pick(-1, 701));
                }
            } else {
                call(name, arguments(name));
            }
            answers.merge(name, 1, Integer::sum);
        }
        for (int what = 0; what < 17 && isSame; what++) {
            call("count", what);
        }
    }

    private static Method[] facesMethods() {
        List<Method> methods = new ArrayList<>();
        for (Method method : NamedCoins.class.getDeclaredMethods()) {
            if (java.lang.reflect.Modifier.isPublic(method.getModifiers())) {
                methods.add(method);
            }
        }
        methods.sort((a, b) -> a.getName().compareTo(b.getName()));
        return methods.toArray(new Method[0]);
    }

    private int pick(int... some) {
        return some[random.nextInt(some.length)];
    }

    private int person() {
        int people = model.count(0);
        return random.nextInt(12) == 0 || people == 0 ? pick(-2, -1, people, 8) : random.nextInt(people);
    }

    private int coin() {
        int many = model.count(1);
        return random.nextInt(12) == 0 || many == 0 ? pick(-1, many, 11, 12) : random.nextInt(many);
    }

    private int years() {
        return random.nextInt(8) == 0 ? pick(-1, 0, 60, 61) : random.nextInt(25);
    }

    private int what(int most) {
        return random.nextInt(12) == 0 ? pick(-1, most + 1) : random.nextInt(most + 1);
    }

    private int sum() {
        return random.nextInt(10) == 0 ? pick(-1, 0, 9999, 10000) : random.nextInt(120);
    }

    private int[] arguments(String name) {
        switch (name) {
            case "feed": return new int[] {random.nextInt(), random.nextInt(), random.nextInt(), 0, -1};
            case "count": return new int[] {what(16)};
            case "person": return new int[] {person(), what(6)};
            case "coin": return new int[] {coin(), what(3)};
            case "years": return new int[] {random.nextInt(10) == 0 ? pick(-1, 0, 20, 21) : 1 + random.nextInt(6)};
            case "give": return new int[] {coin(), person()};
            case "search": case "comesTo": case "lacks": return new int[] {person()};
            case "pays": return new int[] {person(), random.nextInt(4) == 0 ? -1 : person()};
            case "anew": return new int[] {coin(), random.nextInt(8) == 0 ? pick(-1, 100) : random.nextInt(100)};
            case "then": return new int[] {random.nextInt(14) - 1, years(), what(1)};
            case "has": return new int[] {person(), years()};
            case "later": return new int[] {years(), what(3)};
            case "gets": return new int[] {person(), coin()};
            case "hands": return new int[] {coin(), years()};
            case "crumbles": return new int[] {coin()};
            case "steps": return new int[] {person(), person()};
            case "toPay": return new int[] {person(), sum(), what(1)};
            case "change": return new int[] {person(), person(), sum() / 4, what(1)};
            case "share": case "game": return new int[] {person(), person(), what(1)};
            case "toName": return new int[] {coin(), person(), years()};
            case "see": return seeLikely();
            case "needy": return new int[] {what(2)};
            case "look": return new int[] {what(1)};
            case "thieves": return new int[] {person(), random.nextInt(7), random.nextInt(13) - 1};
            case "ages": return new int[] {random.nextInt(), random.nextInt(4) == 0 ? 60 : years(), what(2)};
            default: return new int[0];
        }
    }

    /** Mostly what will be so, since else soon nobody is needy. */
    private int[] seeLikely() {
        int years = random.nextInt(22) - (random.nextInt(9) == 0 ? 1 : 0);
        boolean canBeSo = years >= 0 && years <= 20 && random.nextInt(6) != 0;
        return new int[] {canBeSo ? model.later(years, 0) : person(), years};
    }

    private void call(String name, int... arguments) {
        if (!isSame) {
            return;
        }
        String got = answer(coins, name, arguments);
        String want = answer(model, name, arguments);
        told.add(name + java.util.Arrays.toString(arguments) + " answered " + got + ", due is " + want);
        isSame = got.equals(want);
    }

    private static String answer(Object object, String name, int[] arguments) {
        Class<?>[] types = new Class<?>[arguments.length];
        Object[] values = new Object[arguments.length];
        for (int i = 0; i < arguments.length; i++) {
            types[i] = int.class;
            values[i] = arguments[i];
        }
        try {
            return String.valueOf(object.getClass().getMethod(name, types).invoke(object, values));
        } catch (InvocationTargetException e) {
            return e.getCause().getClass().getName();
        } catch (ReflectiveOperationException e) {
            return e.toString();
        }
    }

    private void mintText() {
        call("mint", -1);
        if (model.count(13) > 0 && random.nextBoolean()) {
            call("mint", 0);
        }
        String text = random.nextInt(3) == 0 ? spoilt(text()) : text();
        text = text.length() > 700 ? text.substring(0, 700) : text;
        told.add(text);
        for (int[] five : Check.fives(text)) {
            call("feed", five);
        }
        call("mint", model.count(13) < 700 ? model.count(13) - (20 - text.length() % 20) % 20 : 700);
        call("fault");
    }

    private String text() {
        StringBuilder text = new StringBuilder();
        int people = random.nextInt(10) == 0 ? random.nextInt(10) : 1 + random.nextInt(5);
        for (int i = 0; i < people; i++) {
            text.append(random.nextInt(4) == 0 ? "beggar " : "person ").append(random.nextInt(10)).append(' ');
            text.append(random.nextInt(3) == 0 ? random.nextInt(31) : random.nextInt(2) * 2);
            int payee = random.nextInt(people);
            text.append(random.nextInt(4) == 0 || payee == i ? "" : " pays " + payee).append(";\n");
        }
        int many = random.nextInt(10) == 0 ? random.nextInt(14) : random.nextInt(7);
        for (int i = 0; i < many && people > 0; i++) {
            int worth = random.nextInt(4) == 0 ? 0 : random.nextInt(random.nextBoolean() ? 100 : 15);
            text.append("coin ").append(worth).append(' ').append(random.nextInt(people)).append(';');
        }
        for (int i = 0; i < 3; i++) {
            String line = random.nextInt(3) == 0 ? "" : rareLine(i);
            text.insert(random.nextBoolean() ? 0 : text.length(), line);
        }
        return text.toString();
    }

    private String rareLine(int kind) {
        switch (kind) {
            case 0: return "minting " + (1 + random.nextInt(random.nextBoolean() ? 3 : 9)) + ";";
            case 1: return "names " + expression(true, 0) + ";";
            default: return "spends " + expression(false, 0) + ";";
        }
    }

    private String expression(boolean names, int depth) {
        int kind = random.nextInt(depth > 5 ? 3 : 12);
        if (kind < 2) {
            return String.valueOf(random.nextInt(random.nextInt(4) == 0 ? 10000 : 40));
        }
        if (kind < 4) {
            String[] values = {"need", "has", "coins", "year", names ? "stocking" : "worth", names ? "has" : "theirs"};
            return values[random.nextInt(6)];
        }
        if (kind == 4) {
            return "(" + expression(names, depth + 1) + ")";
        }
        if (kind == 5) {
            return "(not " + expression(names, depth + 1) + ")";
        }
        String[] joins = {"+", "-", "*", "/", "+", "-", " or ", " and ", "<", "="};
        String join = joins[random.nextInt(joins.length)];
        boolean isTest = join.equals("<") || join.equals("=");
        String joined = expression(names, depth + 1) + join + expression(names, depth + 1);
        return isTest || random.nextInt(4) == 0 ? "(" + joined + ")" : joined;
    }

    private String spoilt(String text) {
        StringBuilder spoilt = new StringBuilder(text);
        int times = 1 + random.nextInt(2);
        for (int i = 0; i < times; i++) {
            int at = random.nextInt(spoilt.length() + 1);
            switch (random.nextInt(5)) {
                case 0 -> spoilt.setLength(at);
                case 1 -> spoilt.insert(at, " " + WORDS[random.nextInt(WORDS.length)] + " ");
                case 2 -> spoilt.insert(at, SIGNS[random.nextInt(SIGNS.length)].repeat(1 + random.nextInt(3)));
                case 3 -> spoilt.insert(at, " " + pick(0, 1, 5, 8, 10, 31, 100, 9999, 10000, 123456) + " ");
                default -> spoilt.delete(at, Math.min(spoilt.length(), at + 1 + random.nextInt(6)));
            }
        }
        return spoilt.toString();
    }
}
