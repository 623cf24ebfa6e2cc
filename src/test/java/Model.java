import java.io.ByteArrayOutputStream;
import java.util.ArrayList;
import java.util.Arrays;
import java.util.HashMap;
import java.util.HashSet;
import java.util.List;
import java.util.Map;
import java.util.NoSuchElementException;
import java.util.Set;
import java.util.function.ToIntFunction;

/** The document written a second time, by objects and copies, with no thought of speed or room. */
public final class Model {
    private static final int NONE = -1;

    private static final class Person {
        int need;
        int stocking;
        int pays = NONE;
        boolean beggar;

        Person copy() {
            Person p = new Person();
            p.need = need;
            p.stocking = stocking;
            p.pays = pays;
            p.beggar = beggar;
            return p;
        }
    }

    private static final class Coin {
        int worth;
        int holder;
        boolean isFalse;
        boolean crumbled;

        Coin(int worth, int holder, boolean isFalse) {
            this.worth = worth;
            this.holder = holder;
            this.isFalse = isFalse;
        }

        Coin copy() {
            Coin c = new Coin(worth, holder, isFalse);
            c.crumbled = crumbled;
            return c;
        }
    }

    private interface Rule extends ToIntFunction<Map<String, Integer>> {
    }

    private static final class Told {
        int minting = 4;
        Rule names;
        Rule spends;
    }

    /** What years and acts change. */
    private static final class State {
        final Told told;
        List<Person> people = new ArrayList<>();
        List<Coin> coins = new ArrayList<>();
        int year;
        int passed;
        int lastNamer = NONE;

        State(Told told) {
            this.told = told;
        }

        State copy() {
            State s = new State(told);
            people.forEach(p -> s.people.add(p.copy()));
            coins.forEach(c -> s.coins.add(c.copy()));
            s.year = year;
            return s;
        }

        State after(int years) {
            State s = copy();
            for (int i = 0; i < years; i++) {
                s.oneYear();
            }
            return s;
        }

        int has(int who) {
            return coins.stream().filter(c -> !c.crumbled && c.holder == who).mapToInt(c -> c.worth).sum();
        }

        int counted(int who) {
            return people.get(who).beggar ? has(who) / 2 : has(who);
        }

        int poorest() {
            int best = NONE;
            for (int i = people.size() - 1; i >= 0; i--) {
                if (best == NONE || counted(i) <= counted(best)) {
                    best = i;
                }
            }
            return best;
        }

        int richest() {
            int best = NONE;
            for (int i = people.size() - 1; i >= 0; i--) {
                if (best == NONE || has(i) >= has(best)) {
                    best = i;
                }
            }
            return best;
        }

        int holder(int coin) {
            return coin < coins.size() && !coins.get(coin).crumbled ? coins.get(coin).holder : NONE;
        }

        int worth(int coin) {
            return coin < coins.size() && !coins.get(coin).crumbled ? coins.get(coin).worth : 0;
        }

        int crumbledMany() {
            return (int) coins.stream().filter(c -> c.crumbled).count();
        }

        Map<String, Integer> values(int who) {
            Map<String, Integer> values = new HashMap<>();
            values.put("need", people.get(who).need);
            values.put("has", has(who));
            values.put("coins", coins.size() - crumbledMany());
            values.put("year", year);
            return values;
        }

        void oneYear() {
            if (year % told.minting == told.minting - 1 && !people.isEmpty() && coins.size() < 12) {
                int who = poorest();
                int named = 10 * people.get(who).need - has(who);
                if (told.names != null) {
                    Map<String, Integer> values = values(who);
                    values.put("stocking", people.get(who).stocking);
                    named = told.names.applyAsInt(values);
                }
                coins.add(new Coin(named < 0 ? 0 : named > 99 ? 99 : named, who, people.get(who).stocking != 0));
                lastNamer = who;
            }
            for (Coin coin : coins) {
                if (!coin.crumbled && people.get(coin.holder).pays != NONE && goes(coin)) {
                    coin.holder = people.get(coin.holder).pays;
                    passed++;
                }
            }
            for (Coin coin : coins) {
                if (coin.isFalse) {
                    coin.worth = coin.worth == 0 ? 0 : coin.worth - 1;
                    if (coin.worth == 0) {
                        coin.isFalse = false;
                        coin.crumbled = true;
                    }
                }
            }
            year++;
        }

        boolean goes(Coin coin) {
            if (coin.worth == 0) {
                return true;
            }
            if (told.spends == null) {
                return coin.worth <= has(coin.holder) / 2;
            }
            Map<String, Integer> values = values(coin.holder);
            values.put("worth", coin.worth);
            values.put("theirs", has(people.get(coin.holder).pays));
            return told.spends.applyAsInt(values) > 0;
        }

        boolean reaches(int from, int to) {
            int at = from;
            for (int i = 0; i < 20; i++) {
                at = people.get(at).pays;
                if (at == NONE) {
                    return false;
                }
                if (at == to) {
                    return true;
                }
            }
            return false;
        }

        int bestOf(int holderOrAll, boolean giftsToo) {
            int best = NONE;
            for (int i = 0; i < coins.size(); i++) {
                Coin c = coins.get(i);
                boolean may = !c.crumbled && (holderOrAll == NONE || c.holder == holderOrAll) && (giftsToo || c.worth > 0);
                if (may && (best == NONE || c.worth > coins.get(best).worth)) {
                    best = i;
                }
            }
            return best;
        }
    }

    private static final class Fault extends Exception {
        private static final long serialVersionUID = 1L;
        final int number;
        final int place;

        Fault(int number, int place) {
            this.number = number;
            this.place = place;
        }
    }

    private record Token(char kind, String text, int place) {
        boolean is(String other) {
            return text.equals(other);
        }
    }

    /** Reads by taking tokens off the front. Kinds: w a word, n a number, s a sign, x none, e the end. */
    private static final class Parser {
        final List<Token> tokens = new ArrayList<>();
        final State state = new State(new Told());
        int at = 0;
        boolean minting;

        Parser(String text) {
            int i = 0;
            while (i < text.length()) {
                int from = i;
                char c = text.charAt(i);
                if (c == ' ' || c == '\n') {
                    i++;
                } else if (c >= 'a' && c <= 'z') {
                    while (i < text.length() && text.charAt(i) >= 'a' && text.charAt(i) <= 'z') {
                        i++;
                    }
                    tokens.add(new Token('w', text.substring(from, i), from));
                } else if (c >= '0' && c <= '9') {
                    while (i < text.length() && text.charAt(i) >= '0' && text.charAt(i) <= '9') {
                        i++;
                    }
                    tokens.add(new Token('n', text.substring(from, i), from));
                } else {
                    i++;
                    tokens.add(new Token(";()+-*/<=".indexOf(c) >= 0 ? 's' : 'x', "" + c, from));
                }
            }
            tokens.add(new Token('e', "", text.length()));
        }

        Token front() {
            return tokens.get(at);
        }

        Fault fault(int number) {
            return new Fault(number, front().place);
        }

        boolean take(String text) {
            if (front().is(text) && front().kind != 'e') {
                at++;
                return true;
            }
            return false;
        }

        void must(String text) throws Fault {
            if (!take(text)) {
                throw fault(1);
            }
        }

        /** The number at the front, not taken yet. */
        int number(int least, int most) throws Fault {
            if (front().kind != 'n') {
                throw fault(1);
            }
            if (front().text.length() > 4) {
                throw fault(2);
            }
            int value = Integer.parseInt(front().text);
            if (value < least || value > most) {
                throw fault(2);
            }
            return value;
        }

        int taken(int least, int most) throws Fault {
            int value = number(least, most);
            at++;
            return value;
        }

        State mint() throws Fault {
            while (front().kind != 'e') {
                line();
                must(";");
            }
            for (Person p : state.people) {
                p.pays = p.pays >= state.people.size() ? NONE : p.pays;
            }
            return state;
        }

        void line() throws Fault {
            String word = front().text;
            switch (word) {
                case "person", "beggar" -> {
                    if (state.people.size() == 8) {
                        throw fault(2);
                    }
                    at++;
                    Person p = new Person();
                    p.beggar = word.equals("beggar");
                    p.need = taken(0, 9);
                    p.stocking = taken(0, 30);
                    if (take("pays")) {
                        p.pays = number(0, 7);
                        if (p.pays == state.people.size()) {
                            throw fault(4);
                        }
                        at++;
                    }
                    state.people.add(p);
                }
                case "coin" -> {
                    if (state.coins.size() == 12) {
                        throw fault(2);
                    }
                    at++;
                    int worth = taken(0, 99);
                    int who = number(0, 9999);
                    if (who >= state.people.size()) {
                        throw fault(3);
                    }
                    at++;
                    state.coins.add(new Coin(worth, who, false));
                }
                case "minting" -> {
                    if (minting) {
                        throw fault(5);
                    }
                    minting = true;
                    at++;
                    state.told.minting = taken(1, 9);
                }
                case "names" -> {
                    if (state.told.names != null) {
                        throw fault(5);
                    }
                    at++;
                    state.told.names = expr(0, List.of("need", "has", "coins", "year", "stocking"));
                }
                case "spends" -> {
                    if (state.told.spends != null) {
                        throw fault(5);
                    }
                    at++;
                    state.told.spends = expr(0, List.of("need", "has", "coins", "year", "worth", "theirs"));
                }
                default -> throw fault(1);
            }
        }

        static int truth(boolean b) {
            return b ? 1 : 0;
        }

        Rule expr(int within, List<String> values) throws Fault {
            if (within == 6) {
                boolean can = front().kind == 'n' || front().kind == 'w' || front().is("(");
                throw fault(can ? 2 : 1);
            }
            Rule left = and(within, values);
            while (take("or")) {
                Rule a = left;
                Rule b = and(within, values);
                left = v -> truth(a.applyAsInt(v) != 0 | b.applyAsInt(v) != 0);
            }
            return left;
        }

        Rule and(int within, List<String> values) throws Fault {
            Rule left = not(within, values, 0);
            while (take("and")) {
                Rule a = left;
                Rule b = not(within, values, 0);
                left = v -> truth(a.applyAsInt(v) != 0 & b.applyAsInt(v) != 0);
            }
            return left;
        }

        Rule not(int within, List<String> values, int nots) throws Fault {
            if (front().is("not")) {
                if (nots == 6) {
                    throw fault(2);
                }
                at++;
                Rule inner = not(within, values, nots + 1);
                return v -> truth(inner.applyAsInt(v) == 0);
            }
            Rule left = sum(within, values);
            if (take("<")) {
                Rule right = sum(within, values);
                return v -> truth(left.applyAsInt(v) < right.applyAsInt(v));
            }
            if (take("=")) {
                Rule right = sum(within, values);
                return v -> truth(left.applyAsInt(v) == right.applyAsInt(v));
            }
            return left;
        }

        Rule sum(int within, List<String> values) throws Fault {
            Rule left = product(within, values);
            while (front().is("+") || front().is("-")) {
                Rule a = left;
                boolean plus = front().is("+");
                at++;
                Rule b = product(within, values);
                left = v -> plus ? a.applyAsInt(v) + b.applyAsInt(v) : a.applyAsInt(v) - b.applyAsInt(v);
            }
            return left;
        }

        Rule product(int within, List<String> values) throws Fault {
            Rule left = part(within, values);
            while (front().is("*") || front().is("/")) {
                Rule a = left;
                boolean times = front().is("*");
                at++;
                Rule b = part(within, values);
                left = v -> times ? a.applyAsInt(v) * b.applyAsInt(v) : cut(a.applyAsInt(v), b.applyAsInt(v));
            }
            return left;
        }

        static int cut(int a, int b) {
            return b == 0 ? 0 : (int) ((long) a / b);
        }

        Rule part(int within, List<String> values) throws Fault {
            if (front().kind == 'n') {
                int n = taken(0, 9999);
                return v -> n;
            }
            if (front().kind == 'w') {
                String name = front().text;
                if (!values.contains(name)) {
                    throw fault(3);
                }
                at++;
                return v -> v.get(name);
            }
            must("(");
            Rule inner = expr(within + 1, values);
            must(")");
            return inner;
        }
    }

    private record Sight(int who, int years) {
    }

    private record Image(State state, List<State> acts, List<Sight> seen, int[] status) {
    }

    private final ByteArrayOutputStream tape = new ByteArrayOutputStream();
    private State now = new State(new Told());
    private List<State> acts = new ArrayList<>();
    private List<Sight> seen = new ArrayList<>();
    private int[] status = new int[3];
    private int faultPlace = NONE;
    private Image kept;

    public int feed(int a, int b, int c, int d, int e) {
        if (tape.size() > 680) {
            return NONE;
        }
        for (int number : new int[] {a, b, c, d, e}) {
            tape.write(number >>> 24);
            tape.write(number >>> 16);
            tape.write(number >>> 8);
            tape.write(number);
        }
        return tape.size();
    }

    public int mint(int n) {
        illegalUnless(n >= 0 && n <= tape.size());
        String text = tape.toString(java.nio.charset.StandardCharsets.ISO_8859_1).substring(0, n);
        tape.reset();
        try {
            now = new Parser(text).mint();
            acts.clear();
            seen.clear();
            kept = null;
            faultPlace = NONE;
            return 0;
        } catch (Fault f) {
            faultPlace = f.place;
            status[0]++;
            return f.number;
        }
    }

    public int fault() {
        return faultPlace;
    }

    private static void illegalUnless(boolean fine) {
        if (!fine) {
            throw new IllegalArgumentException();
        }
    }

    private static void noneUnless(boolean fine) {
        if (!fine) {
            throw new NoSuchElementException();
        }
    }

    private void person(int who) {
        noneUnless(who >= 0 && who < now.people.size());
    }

    private void coin(int coin) {
        noneUnless(coin >= 0 && coin < now.coins.size());
    }

    private int bitsOfCoins(java.util.function.Predicate<Coin> which) {
        int bits = 0;
        for (int i = 0; i < now.coins.size(); i++) {
            bits += which.test(now.coins.get(i)) ? 1 << i : 0;
        }
        return bits;
    }

    private int bitsOfPeople(java.util.function.IntPredicate which) {
        int bits = 0;
        for (int i = 0; i < now.people.size(); i++) {
            bits += which.test(i) ? 1 << i : 0;
        }
        return bits;
    }

    private boolean somebodyPays(int who) {
        return now.people.stream().anyMatch(p -> p.pays == who);
    }

    private int parts() {
        int n = now.people.size();
        int[] part = new int[n];
        for (int i = 0; i < n; i++) {
            part[i] = i;
        }
        for (int i = 0; i < n; i++) {
            int to = now.people.get(i).pays;
            if (to != NONE) {
                int old = part[i];
                int fresh = part[to];
                for (int j = 0; j < n; j++) {
                    part[j] = part[j] == old ? fresh : part[j];
                }
            }
        }
        return (int) Arrays.stream(part).distinct().count();
    }

    public int count(int what) {
        return switch (what) {
            case 0 -> now.people.size();
            case 1 -> now.coins.size();
            case 2 -> now.year;
            case 3 -> now.told.minting;
            case 4 -> now.poorest();
            case 5 -> bitsOfCoins(c -> c.isFalse);
            case 6 -> bitsOfCoins(c -> c.crumbled);
            case 7 -> bitsOfCoins(c -> !c.crumbled && c.worth == 0);
            case 8 -> bitsOfPeople(i -> now.reaches(i, i));
            case 9 -> bitsOfPeople(i -> now.people.get(i).pays == NONE && somebodyPays(i));
            case 10 -> parts();
            case 11 -> acts.size();
            case 12 -> seen.size();
            case 13 -> tape.size();
            case 14, 15, 16 -> status[what - 14];
            default -> throw new NoSuchElementException();
        };
    }

    public int person(int who, int what) {
        person(who);
        Person p = now.people.get(who);
        return switch (what) {
            case 0 -> p.need;
            case 1 -> p.stocking;
            case 2 -> p.pays;
            case 3 -> now.has(who);
            case 4 -> bitsOfCoins(c -> !c.crumbled && c.holder == who);
            case 5 -> bitsOfPeople(i -> now.people.get(i).pays == who);
            case 6 -> p.beggar ? 1 : 0;
            default -> throw new NoSuchElementException();
        };
    }

    public int coin(int coin, int what) {
        coin(coin);
        Coin c = now.coins.get(coin);
        return switch (what) {
            case 0 -> now.worth(coin);
            case 1 -> now.holder(coin);
            case 2 -> c.isFalse ? 1 : 0;
            case 3 -> c.crumbled ? 1 : 0;
            default -> throw new NoSuchElementException();
        };
    }

    private void act() {
        acts.add(now);
        if (acts.size() > 40) {
            acts.remove(0);
        }
        now = now.copy();
    }

    private int refuse(int kind, int answer) {
        status[kind]++;
        return answer;
    }

    public int years(int many) {
        if (many < 1 || many > 20 || now.year + many > 999) {
            return refuse(1, NONE);
        }
        act();
        now = now.after(many);
        return now.year;
    }

    public int give(int coin, int who) {
        coin(coin);
        person(who);
        int before = now.holder(coin);
        if (before == NONE || before == who) {
            return refuse(1, NONE);
        }
        act();
        now.coins.get(coin).holder = who;
        return before;
    }

    public int search(int who) {
        person(who);
        int before = now.people.get(who).stocking;
        if (before == 0) {
            return refuse(1, NONE);
        }
        act();
        now.people.get(who).stocking = 0;
        return before;
    }

    public int pays(int who, int other) {
        person(who);
        if (other != NONE) {
            person(other);
        }
        int before = now.people.get(who).pays;
        if (before == other || other == who) {
            return refuse(1, -2);
        }
        act();
        now.people.get(who).pays = other;
        return before;
    }

    public int anew(int coin, int worth) {
        coin(coin);
        if (worth < 0 || worth > 99 || now.coins.get(coin).crumbled) {
            return refuse(1, NONE);
        }
        act();
        int before = now.coins.get(coin).worth;
        now.coins.get(coin).worth = worth;
        now.coins.get(coin).isFalse = false;
        return before;
    }

    public int undo() {
        if (acts.isEmpty()) {
            return NONE;
        }
        now = acts.remove(acts.size() - 1);
        return acts.size();
    }

    private static void within60(int years) {
        illegalUnless(years >= 0 && years <= 60);
    }

    public int then(int coin, int years, int what) {
        noneUnless(coin >= 0 && coin <= 11 && (what == 0 || what == 1));
        within60(years);
        State s = now.after(years);
        return what == 0 ? s.holder(coin) : s.worth(coin);
    }

    public int has(int who, int years) {
        person(who);
        within60(years);
        return now.after(years).has(who);
    }

    public int later(int years, int what) {
        noneUnless(what >= 0 && what <= 3);
        within60(years);
        State s = now.after(years);
        return switch (what) {
            case 0 -> s.poorest();
            case 1 -> s.richest();
            case 2 -> s.coins.size() - now.coins.size();
            default -> s.passed;
        };
    }

    public int next() {
        for (int years = 1; years <= 60; years++) {
            State s = now.after(years);
            if (s.lastNamer != NONE) {
                return s.lastNamer;
            }
        }
        return NONE;
    }

    public int gets(int who, int coin) {
        person(who);
        coin(coin);
        for (int years = 0; years <= 60; years++) {
            if (now.after(years).holder(coin) == who) {
                return years;
            }
        }
        return NONE;
    }

    public int hands(int coin, int years) {
        coin(coin);
        within60(years);
        Set<Integer> held = new HashSet<>();
        for (int i = 0; i <= years; i++) {
            held.add(now.after(i).holder(coin));
        }
        held.remove(NONE);
        return held.stream().mapToInt(who -> 1 << who).sum();
    }

    public int crumbles(int coin) {
        coin(coin);
        if (now.coins.get(coin).crumbled) {
            return NONE;
        }
        for (int years = 1; years <= 60; years++) {
            if (now.after(years).coins.get(coin).crumbled) {
                return years;
            }
        }
        return NONE;
    }

    public int comesTo(int who) {
        person(who);
        return bitsOfPeople(i -> now.reaches(who, i));
    }

    public int steps(int who, int other) {
        person(who);
        person(other);
        int at = who;
        for (int step = 0; step < 30 && at != NONE; step++) {
            if (at == other) {
                return step;
            }
            at = now.people.get(at).pays;
        }
        return NONE;
    }

    private boolean isMoneyOf(int coin, int who) {
        return now.holder(coin) == who && now.worth(coin) > 0;
    }

    /** All sets whose coins are all money of one of these. */
    private List<Integer> sets(int... owners) {
        List<Integer> sets = new ArrayList<>();
        for (int set = 0; set < 4096; set++) {
            boolean fine = true;
            for (int coin = 0; coin < 12; coin++) {
                if ((set >> coin & 1) == 1) {
                    int c = coin;
                    fine &= Arrays.stream(owners).anyMatch(who -> isMoneyOf(c, who));
                }
            }
            if (fine) {
                sets.add(set);
            }
        }
        return sets;
    }

    private int sumOf(int set, int who) {
        int sum = 0;
        for (int coin = 0; coin < 12; coin++) {
            sum += (set >> coin & 1) == 1 && now.holder(coin) == who ? now.worth(coin) : 0;
        }
        return sum;
    }

    private static int fewest(List<Integer> sets) {
        int best = NONE;
        for (int set : sets) {
            int many = Integer.bitCount(set);
            if (best == NONE || many < Integer.bitCount(best) || many == Integer.bitCount(best) && set < best) {
                best = set;
            }
        }
        return best;
    }

    public int toPay(int who, int sum, int what) {
        person(who);
        noneUnless(what == 0 || what == 1);
        illegalUnless(sum >= 1 && sum <= 9999);
        List<Integer> fit = new ArrayList<>(sets(who));
        fit.removeIf(set -> sumOf(set, who) != sum);
        return what == 1 ? fit.size() : fewest(fit);
    }

    public int change(int who, int other, int sum, int what) {
        person(who);
        person(other);
        noneUnless(what == 0 || what == 1);
        illegalUnless(who != other && sum >= 0 && sum <= 9999);
        List<Integer> fit = new ArrayList<>(sets(who, other));
        fit.removeIf(set -> sumOf(set, who) - sumOf(set, other) != sum);
        int best = fewest(fit);
        return best == NONE ? NONE : what == 1 ? best : Integer.bitCount(best);
    }

    public int share(int who, int other, int what) {
        person(who);
        person(other);
        noneUnless(what == 0 || what == 1);
        illegalUnless(who != other);
        List<Integer> sets = sets(who, other);
        int all = sets.get(sets.size() - 1);
        int least = Integer.MAX_VALUE;
        int best = NONE;
        for (int set : sets) {
            int first = sumOf(set, who) + sumOf(set, other);
            int second = sumOf(all - set, who) + sumOf(all - set, other);
            int apart = Math.max(first, second) - Math.min(first, second);
            if (apart < least) {
                least = apart;
                best = set;
            }
        }
        return what == 0 ? least : best;
    }

    public int lacks(int who) {
        person(who);
        Set<Integer> sums = new HashSet<>();
        sets(who).forEach(set -> sums.add(sumOf(set, who)));
        int sum = 1;
        while (sums.contains(sum)) {
            sum++;
        }
        return sum;
    }

    public int toName(int coin, int who, int years) {
        coin(coin);
        person(who);
        within60(years);
        if (now.coins.get(coin).crumbled) {
            return NONE;
        }
        for (int worth = 0; worth <= 99; worth++) {
            State s = now.copy();
            s.coins.get(coin).worth = worth;
            if (s.after(years).poorest() == who) {
                return worth;
            }
        }
        return NONE;
    }

    public int see(int who, int years) {
        person(who);
        if (seen.size() == 8 || years < 0 || years > 20) {
            return refuse(2, NONE);
        }
        seen.add(new Sight(who, years));
        return seen.size();
    }

    private boolean fits(State s) {
        return seen.stream().allMatch(sight -> s.after(sight.years).poorest() == sight.who);
    }

    private List<Integer> needyOnes() {
        List<Integer> found = new ArrayList<>();
        for (int who = 0; who < now.people.size(); who++) {
            for (int need = 0; need <= 9; need++) {
                if (need != now.people.get(who).need && fits(with(who, need))) {
                    found.add(10 * who + need);
                }
            }
        }
        return found;
    }

    private State with(int who, int need) {
        State s = now.copy();
        s.people.get(who).need = need;
        return s;
    }

    public int needy(int what) {
        return switch (what) {
            case 0 -> needyOnes().size();
            case 1 -> needyOnes().isEmpty() ? NONE : needyOnes().get(0);
            case 2 -> fits(now) ? 1 : 0;
            default -> throw new NoSuchElementException();
        };
    }

    public int look(int what) {
        noneUnless(what == 0 || what == 1);
        int best = NONE;
        int most = 0;
        List<State> states = new ArrayList<>();
        needyOnes().forEach(n -> states.add(with(n / 10, n % 10).after(8)));
        for (int coin = 0; coin < 12; coin++) {
            Set<Integer> holders = new HashSet<>();
            for (State s : states) {
                holders.add(s.holder(coin));
            }
            if (holders.size() > most) {
                most = holders.size();
                best = coin;
            }
        }
        return what == 0 ? best : most;
    }

    public void forget() {
        seen.clear();
    }

    public int thieves(int who, int years, int tenths) {
        person(who);
        illegalUnless(years >= 1 && years <= 5 && tenths >= 0 && tenths <= 10);
        return chance(now, who, years, tenths);
    }

    private static int chance(State s, int who, int years, int tenths) {
        if (years == 0) {
            return s.poorest() == who ? 1 : 0;
        }
        State stolen = s.copy();
        int coin = stolen.bestOf(NONE, true);
        if (coin != NONE) {
            stolen.coins.get(coin).holder = stolen.poorest();
        }
        return tenths * chance(stolen.after(1), who, years - 1, tenths)
                + (10 - tenths) * chance(s.after(1), who, years - 1, tenths);
    }

    public int game(int who, int other, int what) {
        person(who);
        person(other);
        noneUnless(what == 0 || what == 1);
        illegalUnless(who != other);
        int mine = now.bestOf(who, false);
        int yours = now.bestOf(other, false);
        int many = 0;
        int first = NONE;
        for (int a = 0; a <= (mine == NONE ? 0 : 1); a++) {
            for (int b = 0; b <= (yours == NONE ? 0 : 1); b++) {
                boolean rests = true;
                if (mine != NONE) {
                    rests &= gain(who, other, 1 - a, b)[0] <= gain(who, other, a, b)[0];
                }
                if (yours != NONE) {
                    rests &= gain(who, other, a, 1 - b)[1] <= gain(who, other, a, b)[1];
                }
                if (rests) {
                    many++;
                    first = first == NONE ? 10 * a + b : first;
                }
            }
        }
        return what == 0 ? many : first;
    }

    private int[] gain(int who, int other, int a, int b) {
        State s = now.copy();
        if (a == 1) {
            s.coins.get(now.bestOf(who, false)).holder = other;
        }
        if (b == 1) {
            s.coins.get(now.bestOf(other, false)).holder = who;
        }
        State end = s.after(6);
        return new int[] {end.has(who) / 10 + (end.poorest() == who ? 0 : 3),
            end.has(other) / 10 + (end.poorest() == other ? 0 : 3)};
    }

    private int seed;

    private int draw(int n) {
        seed = (int) (seed * 1103515245L + 12345L);
        return (int) ((seed & 0x7fffffffL) / 65536 % n);
    }

    public int ages(int from, int n, int what) {
        noneUnless(what >= 0 && what <= 2);
        within60(n);
        seed = from;
        State s = now.copy();
        for (int i = 0; i < n; i++) {
            int fate = draw(6);
            int many = s.people.size();
            if (many > 0 && fate == 0 && !s.coins.isEmpty()) {
                Coin coin = s.coins.get(draw(s.coins.size()));
                int who = draw(many);
                coin.holder = coin.crumbled ? coin.holder : who;
            }
            if (many > 0 && fate == 1) {
                Person p = s.people.get(draw(many));
                p.stocking = draw(5);
            }
            if (many > 0 && fate == 2) {
                int who = draw(many);
                int to = draw(many);
                s.people.get(who).pays = who == to ? NONE : to;
            }
            s.oneYear();
        }
        int all = 0;
        for (int i = 0; i < s.people.size(); i++) {
            all += s.has(i);
        }
        return what == 0 ? s.coins.size() - now.coins.size()
                : what == 1 ? s.crumbledMany() - now.crumbledMany() : all;
    }

    public void image() {
        kept = new Image(now.copy(), new ArrayList<>(acts), new ArrayList<>(seen), status.clone());
    }

    public boolean restore() {
        if (kept == null) {
            return false;
        }
        now = kept.state.copy();
        acts = new ArrayList<>(kept.acts);
        seen = new ArrayList<>(kept.seen);
        status = kept.status.clone();
        return true;
    }
}
