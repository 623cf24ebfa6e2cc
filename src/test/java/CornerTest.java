import java.lang.reflect.InvocationTargetException;
import java.lang.reflect.Method;
import java.util.ArrayList;
import java.util.Arrays;
import java.util.List;

/** Each call with all couples of corner numbers, in worlds that are empty, full, crumbled, or at their end, against the Model. */
public final class CornerTest {
    private static final int LEAST = Integer.MIN_VALUE;
    private static final int MOST = Integer.MAX_VALUE;
    private static final int[][] CORNERS = {
        {},
        {LEAST, LEAST + 1, -3, -2, -1, 0, 1, 2, 3, 4, 5, 6, 7, 8, 9, 10, 11, 12, 13, 14, 15, 16, 17, 19, 20, 21, 99, 100, MOST},
        {LEAST, -2, -1, 0, 1, 2, 3, 4, 6, 7, 8, 11, 12, 20, 21, 60, 61, 99, 100, MOST},
        {LEAST, -1, 0, 1, 2, 3, 5, 6, 7, 8, 10, 11, 12, 60, 61, MOST},
        {LEAST, -1, 0, 1, 2, 7, 8, 9999, 10000, MOST},
        {LEAST, MOST}};
    private static final String[] WORLDS = {
        "",
        "minting 1;names 5;",
        "person 5 3;",
        "person 3 0;person 5 0;coin 40 0;coin 9 1;minting 9;",
        "person 1 3;minting 1;",
        "person 0 0 pays 1;beggar 4 9 pays 2;person 9 0 pays 0;coin 0 0;coin 30 0;coin 7 1;coin 0 2;minting 3;",
        "person 0 30 pays 7;beggar 9 0 pays 0;person 5 1 pays 1;person 5 0;beggar 3 2 pays 3;person 8 0 pays 6;"
            + "person 8 0 pays 5;person 1 1 pays 0;" + "coin 99 7;coin 0 1;coin 1 3;coin 50 4;".repeat(3) + "spends has<worth*3;"};

    private int wrong = 0;
    private int asked = 0;

    public static void main(String[] args) throws ReflectiveOperationException {
        Check.endWithin(600);
        CornerTest test = new CornerTest();
        for (String world : WORLDS) {
            test.walk(world, 0);
            test.walk(world, 7);
        }
        test.walk(WORLDS[3], 999);
        Check.due("answers at corners unlike the model's", test.wrong, 0);
        Check.due("answers at corners", test.asked > 10000, true);
        System.out.println("CornerTest: " + test.asked + " calls");
        Check.end("CornerTest");
    }

    private void walk(String world, int years) throws ReflectiveOperationException {
        NamedCoins coins = new NamedCoins();
        Model model = new Model();
        mint(coins, model, world);
        for (int left = years; left > 0; left -= 20) {
            coins.years(Math.min(left, 20));
            model.years(Math.min(left, 20));
        }
        for (Method method : NamedCoins.class.getDeclaredMethods()) {
            int arity = method.getParameterCount();
            if (java.lang.reflect.Modifier.isPublic(method.getModifiers()) && !method.getName().equals("mint") && arity > 0) {
                Method other = Model.class.getMethod(method.getName(), method.getParameterTypes());
                for (Integer[] arguments : grid(arity)) {
                    ask(world, coins, method, model, other, arguments);
                }
            }
        }
    }

    private static void mint(NamedCoins coins, Model model, String text) {
        for (int[] five : Check.fives(text)) {
            coins.feed(five[0], five[1], five[2], five[3], five[4]);
            model.feed(five[0], five[1], five[2], five[3], five[4]);
        }
        Check.due("mint of " + text, coins.mint(text.length()), 0);
        model.mint(text.length());
    }

    private static List<Integer[]> grid(int arity) {
        List<Integer[]> rows = new ArrayList<>();
        rows.add(new Integer[0]);
        for (int i = 0; i < arity; i++) {
            List<Integer[]> longer = new ArrayList<>();
            for (Integer[] row : rows) {
                for (int corner : CORNERS[arity]) {
                    Integer[] more = Arrays.copyOf(row, row.length + 1);
                    more[row.length] = corner;
                    longer.add(more);
                }
            }
            rows = longer;
        }
        return rows;
    }

    /** Each call starts from the same world: the image brings it back. */
    private void ask(String world, NamedCoins coins, Method method, Model model, Method other, Integer[] arguments)
            throws ReflectiveOperationException {
        coins.image();
        model.image();
        String got = answer(coins, method, arguments) + portrait(coins.count(1), coins.count(2), coins.count(15), coins.count(16));
        String want = answer(model, other, arguments) + portrait(model.count(1), model.count(2), model.count(15), model.count(16));
        asked++;
        if (!got.equals(want)) {
            wrong++;
            if (wrong < 20) {
                System.out.println(world + " " + method.getName() + Arrays.toString(arguments) + ": " + got + ", due is " + want);
            }
        }
        coins.restore();
        model.restore();
    }

    private static String portrait(int... numbers) {
        return " and then " + Arrays.toString(numbers);
    }

    private static String answer(Object object, Method method, Integer[] arguments) throws IllegalAccessException {
        try {
            return String.valueOf(method.invoke(object, (Object[]) arguments));
        } catch (InvocationTargetException e) {
            return e.getCause().getClass().getName();
        }
    }
}
