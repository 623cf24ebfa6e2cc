import java.util.Arrays;
import java.util.NoSuchElementException;

/** A mint to which the poorest is brought up to name the coin; ../shared/DOC.md says what it promises. */
public final class NamedCoins {
    public static final int NONE = -1;

    private static final int MOST_BYTES = 700;
    private static final int FED_BYTES = 20;
    private static final int MOST_PEOPLE = 8;
    private static final int MOST_COINS = 12;
    private static final int MOST_NEED = 9;
    private static final int MOST_STOCKING = 30;
    private static final int MOST_WORTH = 99;
    private static final int MOST_MINTING = 9;
    private static final int USUAL_MINTING = 4;
    private static final int MOST_ACTS = 40;
    private static final int MOST_SEEN = 8;
    private static final int MOST_SEEN_YEARS = 20;
    private static final int MOST_YEARS_AT_ONCE = 20;
    private static final int LAST_YEAR = 999;
    private static final int FORESIGHT = 60;
    private static final int MOST_SUM = 9999;
    private static final int MOST_THIEF_YEARS = 5;
    private static final int MOST_TENTHS = 10;
    private static final int NOT_CHANGED = -2;

    private static final int REFUSED_TEXTS = 0;
    private static final int REFUSED_ACTS = 1;
    private static final int REFUSED_SIGHTS = 2;

    private final byte[] tape;
    private final Memory memory;
    private final Memory keptImage;
    private final World now;
    /** The world in which a call tries what would come; nothing in it outlives the call. */
    private final World run;
    private final Rules rules;
    private final Rules freshRules;
    private final Reader reader;
    private final Course course;
    private final Sums sums;
    private final Guess guess;
    private final Play play;
    private int fed = 0;
    private int faultPlace = NONE;
    private boolean hasImage = false;

    /** All rows are made here, so that no call makes any. */
    public NamedCoins() {
        byte[] bytes = new byte[MOST_BYTES];
        Memory present = new Memory();
        World trial = new World();
        Rules told = new Rules();
        Rules fresh = new Rules();
        tape = bytes;
        memory = present;
        keptImage = new Memory();
        now = present.world;
        run = trial;
        rules = told;
        freshRules = fresh;
        reader = new Reader(new Tokens(bytes), trial, fresh);
        course = new Course(present.world, trial, told);
        sums = new Sums();
        guess = new Guess(present, trial, told);
        play = new Play(present.world, trial, told);
    }

    public int feed(int a, int b, int c, int d, int e) {
        if (fed + FED_BYTES > MOST_BYTES) {
            return NONE;
        }
        putBytes(a);
        putBytes(b);
        putBytes(c);
        putBytes(d);
        putBytes(e);
        return fed;
    }

    private void putBytes(int number) {
        for (int shift = 24; shift >= 0; shift -= 8) {
            if (fed < tape.length) {
                tape[fed] = (byte) (number >> shift);
                fed++;
            }
        }
    }

    public int mint(int n) throws IllegalArgumentException {
        if (n < 0 || n > fed) {
            throw new IllegalArgumentException("the tape has not so many bytes");
        }
        fed = 0;
        int wrong = reader.readText(n);
        faultPlace = reader.place;
        if (wrong != 0) {
            memory.refuse(REFUSED_TEXTS);
            return wrong;
        }
        now.copyFrom(run);
        rules.copyFrom(freshRules);
        memory.acts = 0;
        memory.seen = 0;
        hasImage = false;
        return 0;
    }

    public int fault() {
        return faultPlace;
    }

    public int count(int what) throws NoSuchElementException {
        switch (what) {
            case 0: return now.people;
            case 1: return now.coins;
            case 2: return now.year;
            case 3: return now.minting;
            case 4: return now.poorest();
            case 5: return now.falseCoins;
            case 6: return now.crumbledCoins;
            case 7: return now.gifts();
            case 8: return Payees.rings(now);
            case 9: return Payees.sinks(now);
            case 10: return Payees.parts(now);
            case 11: return memory.acts;
            case 12: return memory.seen;
            case 13: return fed;
            case 14: return memory.refused(REFUSED_TEXTS);
            case 15: return memory.refused(REFUSED_ACTS);
            case 16: return memory.refused(REFUSED_SIGHTS);
            default: throw new NoSuchElementException("no such count");
        }
    }

    public int person(int person, int what) throws NoSuchElementException {
        needPerson(person);
        switch (what) {
            case 0: return now.need[person];
            case 1: return now.stocking[person];
            case 2: return now.payee[person];
            case 3: return now.wealthOf(person);
            case 4: return now.heldBy(person);
            case 5: return Payees.payers(now, person);
            case 6: return now.isBeggar(person) ? 1 : 0;
            default: throw new NoSuchElementException("no such thing of a person");
        }
    }

    public int coin(int coin, int what) throws NoSuchElementException {
        needCoin(coin);
        switch (what) {
            case 0: return now.worth[coin];
            case 1: return now.holder[coin];
            case 2: return now.isFalse(coin) ? 1 : 0;
            case 3: return now.isCrumbled(coin) ? 1 : 0;
            default: throw new NoSuchElementException("no such thing of a coin");
        }
    }

    public int years(int many) {
        if (many < 1 || many > MOST_YEARS_AT_ONCE || now.year + many > LAST_YEAR) {
            memory.refuse(REFUSED_ACTS);
            return NONE;
        }
        memory.keepAct();
        now.goYears(many, rules);
        return now.year;
    }

    public int give(int coin, int person) throws NoSuchElementException {
        needCoin(coin);
        needPerson(person);
        int before = now.holder[coin];
        if (now.isCrumbled(coin) || before == person) {
            memory.refuse(REFUSED_ACTS);
            return NONE;
        }
        memory.keepAct();
        now.handTo(coin, person);
        return before;
    }

    public int search(int person) throws NoSuchElementException {
        needPerson(person);
        int before = now.stocking[person];
        if (before == 0) {
            memory.refuse(REFUSED_ACTS);
            return NONE;
        }
        memory.keepAct();
        now.stocking[person] = 0;
        return before;
    }

    public int pays(int person, int other) throws NoSuchElementException {
        needPerson(person);
        if (other != NONE) {
            needPerson(other);
        }
        int before = now.payee[person];
        if (before == other || other == person) {
            memory.refuse(REFUSED_ACTS);
            return NOT_CHANGED;
        }
        memory.keepAct();
        now.payee[person] = other;
        return before;
    }

    public int anew(int coin, int worth) throws NoSuchElementException {
        needCoin(coin);
        if (worth < 0 || worth > MOST_WORTH || now.isCrumbled(coin)) {
            memory.refuse(REFUSED_ACTS);
            return NONE;
        }
        int before = now.worth[coin];
        memory.keepAct();
        now.nameAnew(coin, worth);
        return before;
    }

    public int undo() {
        return memory.undoAct();
    }

    public int then(int coin, int years, int what) throws NoSuchElementException, IllegalArgumentException {
        if (coin < 0 || coin >= MOST_COINS) {
            throw new NoSuchElementException("no such coin");
        }
        needWhat(what, 1);
        needForesight(years);
        course.goTo(years);
        return what == 0 ? run.holder[coin] : run.worth[coin];
    }

    public int has(int person, int years) throws NoSuchElementException, IllegalArgumentException {
        needPerson(person);
        needForesight(years);
        course.goTo(years);
        return run.wealthOf(person);
    }

    public int later(int years, int what) throws NoSuchElementException, IllegalArgumentException {
        needWhat(what, 3);
        needForesight(years);
        course.goTo(years);
        switch (what) {
            case 0: return run.poorest();
            case 1: return run.richest();
            case 2: return run.coins - now.coins;
            default: return run.passed;
        }
    }

    public int next() {
        return course.nextNamer();
    }

    public int gets(int person, int coin) throws NoSuchElementException {
        needPerson(person);
        needCoin(coin);
        return course.yearsUntilHeld(coin, person);
    }

    public int hands(int coin, int years) throws NoSuchElementException, IllegalArgumentException {
        needCoin(coin);
        needForesight(years);
        return course.holdersWithin(coin, years);
    }

    public int crumbles(int coin) throws NoSuchElementException {
        needCoin(coin);
        return now.isCrumbled(coin) ? NONE : course.yearsUntilHeld(coin, NONE);
    }

    public int comesTo(int person) throws NoSuchElementException {
        needPerson(person);
        return Payees.reached(now, person);
    }

    public int steps(int person, int other) throws NoSuchElementException {
        needPerson(person);
        needPerson(other);
        return Payees.distance(now, person, other);
    }

    public int toPay(int person, int sum, int what) throws NoSuchElementException, IllegalArgumentException {
        needPerson(person);
        needWhat(what, 1);
        if (sum < 1 || sum > MOST_SUM) {
            throw new IllegalArgumentException("no such sum");
        }
        int own = Sums.moneyOf(now, person);
        return what == 0 ? sums.fewest(now, own, 0, sum) : sums.countSets(now, own, sum);
    }

    public int change(int person, int other, int sum, int what) throws NoSuchElementException, IllegalArgumentException {
        needPerson(person);
        needPerson(other);
        needWhat(what, 1);
        needTwo(person, other);
        if (sum < 0 || sum > MOST_SUM) {
            throw new IllegalArgumentException("no such sum");
        }
        int set = sums.fewest(now, Sums.moneyOf(now, person), Sums.moneyOf(now, other), sum);
        return what == 1 || set == NONE ? set : Integer.bitCount(set);
    }

    public int share(int person, int other, int what) throws NoSuchElementException, IllegalArgumentException {
        needPerson(person);
        needPerson(other);
        needWhat(what, 1);
        needTwo(person, other);
        int all = Sums.moneyOf(now, person) | Sums.moneyOf(now, other);
        int set = sums.fairest(now, all);
        return what == 1 ? set : sums.apart(all, set);
    }

    public int lacks(int person) throws NoSuchElementException {
        needPerson(person);
        return Sums.leastUnpaid(now, Sums.moneyOf(now, person));
    }

    public int toName(int coin, int person, int years) throws NoSuchElementException, IllegalArgumentException {
        needCoin(coin);
        needPerson(person);
        needForesight(years);
        return now.isCrumbled(coin) ? NONE : course.worthFor(coin, person, years);
    }

    public int see(int person, int years) throws NoSuchElementException {
        needPerson(person);
        if (memory.seen >= MOST_SEEN || years < 0 || years > MOST_SEEN_YEARS) {
            memory.refuse(REFUSED_SIGHTS);
            return NONE;
        }
        memory.keepSight(person, years);
        return memory.seen;
    }

    public int needy(int what) throws NoSuchElementException {
        needWhat(what, 2);
        switch (what) {
            case 0: return guess.countNeedy();
            case 1: return guess.firstNeedy();
            default: return guess.isSeenWithout() ? 1 : 0;
        }
    }

    public int look(int what) throws NoSuchElementException {
        needWhat(what, 1);
        int coin = guess.coinToLookAt();
        return what == 0 ? coin : guess.unlikeHolders(coin);
    }

    public void forget() {
        memory.seen = 0;
    }

    public int thieves(int person, int years, int tenths) throws NoSuchElementException, IllegalArgumentException {
        needPerson(person);
        if (years < 1 || years > MOST_THIEF_YEARS || tenths < 0 || tenths > MOST_TENTHS) {
            throw new IllegalArgumentException("no such years or tenths");
        }
        return play.chancePoorest(person, years, tenths);
    }

    public int game(int person, int other, int what) throws NoSuchElementException, IllegalArgumentException {
        needPerson(person);
        needPerson(other);
        needWhat(what, 1);
        needTwo(person, other);
        play.playOut(person, other);
        return what == 0 ? play.countRests() : play.firstRest();
    }

    public int ages(int seed, int n, int what) throws NoSuchElementException, IllegalArgumentException {
        needWhat(what, 2);
        needForesight(n);
        play.goAges(seed, n);
        switch (what) {
            case 0: return run.coins - now.coins;
            case 1: return Integer.bitCount(run.crumbledCoins) - Integer.bitCount(now.crumbledCoins);
            default: return run.allWealth();
        }
    }

    public void image() {
        keptImage.copyFrom(memory);
        hasImage = true;
    }

    public boolean restore() {
        if (hasImage) {
            memory.copyFrom(keptImage);
        }
        return hasImage;
    }

    private void needPerson(int person) {
        if (!now.isPerson(person)) {
            throw new NoSuchElementException("no such person");
        }
    }

    private void needCoin(int coin) {
        if (!now.isCoin(coin)) {
            throw new NoSuchElementException("no such coin");
        }
    }

    private static void needWhat(int what, int most) {
        if (what < 0 || what > most) {
            throw new NoSuchElementException("no such question");
        }
    }

    private static void needForesight(int years) {
        if (years < 0 || years > FORESIGHT) {
            throw new IllegalArgumentException("not 0 to 60 years");
        }
    }

    private static void needTwo(int person, int other) {
        if (person == other) {
            throw new IllegalArgumentException("both are one");
        }
    }

    /** People and coins as they are at one time, and how a year changes them. */
    private static final class World {
        int people = 0;
        int coins = 0;
        int year = 0;
        int minting = USUAL_MINTING;
        int beggars = 0;
        int falseCoins = 0;
        int crumbledCoins = 0;
        /** How often coins went on since this world was copied or cleared. */
        int passed = 0;
        final int[] need = new int[MOST_PEOPLE];
        final int[] stocking = new int[MOST_PEOPLE];
        final int[] payee = new int[MOST_PEOPLE];
        final int[] worth = new int[MOST_COINS];
        /** NONE for coins that are crumbled or not minted, so that these need no test of their own. */
        final int[] holder = new int[MOST_COINS];
        /** Only as fresh as the latest tally(): a year keeps it up to date while coins go on. */
        private final int[] wealth = new int[MOST_PEOPLE];

        World() {
            Arrays.fill(payee, NONE);
            Arrays.fill(holder, NONE);
        }

        void clear() {
            people = 0;
            coins = 0;
            year = 0;
            minting = USUAL_MINTING;
            beggars = 0;
            falseCoins = 0;
            crumbledCoins = 0;
            passed = 0;
            Arrays.fill(payee, NONE);
            Arrays.fill(holder, NONE);
            Arrays.fill(worth, 0);
        }

        void copyFrom(World other) {
            people = other.people;
            coins = other.coins;
            year = other.year;
            minting = other.minting;
            beggars = other.beggars;
            falseCoins = other.falseCoins;
            crumbledCoins = other.crumbledCoins;
            passed = 0;
            System.arraycopy(other.need, 0, need, 0, MOST_PEOPLE);
            System.arraycopy(other.stocking, 0, stocking, 0, MOST_PEOPLE);
            System.arraycopy(other.payee, 0, payee, 0, MOST_PEOPLE);
            System.arraycopy(other.worth, 0, worth, 0, MOST_COINS);
            System.arraycopy(other.holder, 0, holder, 0, MOST_COINS);
        }

        boolean isPerson(int person) {
            return person >= 0 && person < people && person < MOST_PEOPLE;
        }

        boolean isCoin(int coin) {
            return coin >= 0 && coin < coins && coin < MOST_COINS;
        }

        boolean isBeggar(int person) {
            return (beggars & 1 << person) != 0;
        }

        boolean isFalse(int coin) {
            return (falseCoins & 1 << coin) != 0;
        }

        boolean isCrumbled(int coin) {
            return (crumbledCoins & 1 << coin) != 0;
        }

        int payeeOf(int person) {
            return isPerson(person) ? payee[person] : NONE;
        }

        int heldBy(int person) {
            int bits = 0;
            for (int coin = 0; coin < MOST_COINS; coin++) {
                if (holder[coin] == person) {
                    bits |= 1 << coin;
                }
            }
            return bits;
        }

        int gifts() {
            int bits = 0;
            for (int coin = 0; coin < MOST_COINS; coin++) {
                if (worth[coin] == 0 && isPerson(holder[coin])) {
                    bits |= 1 << coin;
                }
            }
            return bits;
        }

        private void tally() {
            Arrays.fill(wealth, 0);
            for (int coin = 0; coin < coins && coin < MOST_COINS; coin++) {
                if (isPerson(holder[coin])) {
                    wealth[holder[coin]] += worth[coin];
                }
            }
        }

        int wealthOf(int person) {
            tally();
            return isPerson(person) ? wealth[person] : 0;
        }

        int allWealth() {
            int sum = 0;
            for (int coin = 0; coin < MOST_COINS; coin++) {
                if (isPerson(holder[coin])) {
                    sum += worth[coin];
                }
            }
            return sum;
        }

        int poorest() {
            tally();
            int least = NONE;
            int leastWealth = 0;
            for (int person = 0; person < people && person < MOST_PEOPLE; person++) {
                int counted = isBeggar(person) ? wealth[person] / 2 : wealth[person];
                if (least == NONE || counted < leastWealth) {
                    least = person;
                    leastWealth = counted;
                }
            }
            return least;
        }

        int richest() {
            tally();
            int most = NONE;
            int mostWealth = 0;
            for (int person = 0; person < people && person < MOST_PEOPLE; person++) {
                if (most == NONE || wealth[person] > mostWealth) {
                    most = person;
                    mostWealth = wealth[person];
                }
            }
            return most;
        }

        /** The coin of most worth among these (bits), of like ones the least; NONE among none. */
        int dearest(int among) {
            int best = NONE;
            int bestWorth = NONE;
            for (int coin = 0; coin < MOST_COINS; coin++) {
                if ((among & 1 << coin) != 0 && worth[coin] > bestWorth) {
                    best = coin;
                    bestWorth = worth[coin];
                }
            }
            return best;
        }

        void handTo(int coin, int person) {
            if (isCoin(coin) && isPerson(person) && !isCrumbled(coin)) {
                holder[coin] = person;
            }
        }

        void nameAnew(int coin, int newWorth) {
            if (isCoin(coin)) {
                worth[coin] = newWorth;
                falseCoins &= ~(1 << coin);
            }
        }

        void addCoin(int newWorth, int person) {
            if (coins < MOST_COINS) {
                worth[coins] = newWorth;
                holder[coins] = person;
                coins++;
            }
        }

        void goYears(int many, Rules rules) {
            for (int gone = 0; gone < many; gone++) {
                goYear(rules);
            }
        }

        void goYear(Rules rules) {
            if (isMintingDue()) {
                nameCoin(rules);
            }
            tally();
            for (int coin = 0; coin < coins && coin < MOST_COINS; coin++) {
                passOn(coin, rules);
            }
            for (int coin = 0; falseCoins != 0 && coin < coins && coin < MOST_COINS; coin++) {
                if (isFalse(coin)) {
                    wearDown(coin);
                }
            }
            year++;
        }

        private boolean isMintingDue() {
            return minting > 0 && year % minting == minting - 1 && people > 0 && coins < MOST_COINS;
        }

        private void nameCoin(Rules rules) {
            int who = poorest();
            if (!isPerson(who)) {
                return;
            }
            int named = rules.nameBy(this, who, wealth[who]);
            if (stocking[who] != 0) {
                falseCoins |= 1 << coins;
            }
            addCoin(Math.max(0, Math.min(MOST_WORTH, named)), who);
        }

        private void passOn(int coin, Rules rules) {
            int from = holder[coin];
            int to = payeeOf(from);
            if (to == NONE || !isPerson(from) || !isPerson(to)) {
                return;
            }
            if (worth[coin] == 0 || rules.isSpent(this, coin, wealth[from], wealth[to])) {
                holder[coin] = to;
                wealth[from] -= worth[coin];
                wealth[to] += worth[coin];
                passed++;
            }
        }

        private void wearDown(int coin) {
            worth[coin] = Math.max(0, worth[coin] - 1);
            if (worth[coin] == 0) {
                holder[coin] = NONE;
                falseCoins &= ~(1 << coin);
                crumbledCoins |= 1 << coin;
            }
        }
    }

    /** The rules NAMES and SPENDS, as steps on a stack: operands first, then what joins them. */
    private static final class Rules {
        static final int NEED = 0;
        static final int HAS = 1;
        static final int COINS = 2;
        static final int YEAR = 3;
        static final int STOCKING = 4;
        static final int WORTH = 5;
        static final int THEIRS = 6;
        static final int VALUES = 7;
        static final int ADD = 10;
        static final int SUBTRACT = 11;
        static final int MULTIPLY = 12;
        static final int DIVIDE = 13;
        static final int LESS = 14;
        static final int SAME = 15;
        static final int AND = 16;
        static final int OR = 17;
        static final int NOT = 18;
        /** A step of this or more pushes the number that it is more. */
        static final int NUMBER = 100;
        /** Six expressions within one another, five operands waiting in each, and one more: 31. */
        private static final int MOST_WAITING = 40;

        private final int[] code = new int[MOST_BYTES];
        private final int[] values = new int[VALUES];
        private final int[] stack = new int[MOST_WAITING];
        private int used = 0;
        private int namesFrom = 0;
        private int namesTo = 0;
        private int spendsFrom = 0;
        private int spendsTo = 0;

        void clear() {
            used = 0;
            namesFrom = 0;
            namesTo = 0;
            spendsFrom = 0;
            spendsTo = 0;
        }

        void copyFrom(Rules other) {
            used = other.used;
            namesFrom = other.namesFrom;
            namesTo = other.namesTo;
            spendsFrom = other.spendsFrom;
            spendsTo = other.spendsTo;
            System.arraycopy(other.code, 0, code, 0, MOST_BYTES);
        }

        void add(int step) {
            if (used < code.length) {
                code[used] = step;
                used++;
            }
        }

        void begin(boolean isNames) {
            if (isNames) {
                namesFrom = used;
            } else {
                spendsFrom = used;
            }
        }

        void end(boolean isNames) {
            if (isNames) {
                namesTo = used;
            } else {
                spendsTo = used;
            }
        }

        /** A rule that was told has at least one step. */
        boolean isTold(boolean isNames) {
            return isNames ? namesTo > namesFrom : spendsTo > spendsFrom;
        }

        int nameBy(World world, int who, int wealth) {
            if (!world.isPerson(who)) {
                return 0;
            }
            if (!isTold(true)) {
                return 10 * world.need[who] - wealth;
            }
            setValues(world, who, wealth);
            values[STOCKING] = world.stocking[who];
            return evaluate(namesFrom, namesTo);
        }

        boolean isSpent(World world, int coin, int wealth, int theirs) {
            if (!world.isCoin(coin) || !world.isPerson(world.holder[coin])) {
                return false;
            }
            if (!isTold(false)) {
                return world.worth[coin] <= wealth / 2;
            }
            setValues(world, world.holder[coin], wealth);
            values[WORTH] = world.worth[coin];
            values[THEIRS] = theirs;
            return evaluate(spendsFrom, spendsTo) > 0;
        }

        private void setValues(World world, int who, int wealth) {
            values[NEED] = world.need[who];
            values[HAS] = wealth;
            values[COINS] = world.coins - Integer.bitCount(world.crumbledCoins);
            values[YEAR] = world.year;
        }

        private int evaluate(int from, int to) {
            int top = 0;
            for (int at = from; at < to && at < code.length; at++) {
                int step = code[at];
                boolean isValue = step >= 0 && step < VALUES;
                boolean isOperand = isValue || step >= NUMBER;
                if (isOperand && top < stack.length) {
                    stack[top] = isValue ? values[step] : step - NUMBER;
                    top++;
                } else if (step == NOT && top >= 1) {
                    stack[top - 1] = stack[top - 1] == 0 ? 1 : 0;
                } else if (!isOperand && top >= 2) {
                    top--;
                    stack[top - 1] = join(step, stack[top - 1], stack[top]);
                }
            }
            return top == 1 ? stack[0] : 0;
        }

        private static int join(int step, int left, int right) {
            switch (step) {
                case ADD: return left + right;
                case SUBTRACT: return left - right;
                case MULTIPLY: return left * right;
                case DIVIDE: return right == 0 ? 0 : left / right;
                case LESS: return left < right ? 1 : 0;
                case SAME: return left == right ? 1 : 0;
                case AND: return left != 0 && right != 0 ? 1 : 0;
                default: return left != 0 || right != 0 ? 1 : 0;
            }
        }
    }

    /** The tape's bytes as tokens, one at a time. */
    private static final class Tokens {
        private static final int END = 0;
        private static final int WORD = 1;
        private static final int NUMBER = 2;
        private static final int SIGN = 3;
        private static final int MOST_DIGITS = 4;
        /** The value of a number of too many digits: above all that a number may be. */
        static final int TOO_LONG = 10000;

        private final byte[] text;
        private int length = 0;
        private int to = 0;
        private int kind = END;
        int from = 0;
        int value = 0;

        Tokens(byte[] text) {
            this.text = text;
        }

        void open(int n) {
            length = n;
            to = 0;
            advance();
        }

        void advance() {
            from = to;
            for (int i = 0; i < MOST_BYTES && isBlank(byteAt(from)); i++) {
                from++;
            }
            int first = byteAt(from);
            if (first == NONE) {
                kind = END;
                to = from;
            } else if (isLetter(first)) {
                kind = WORD;
                to = endOfRow(true);
            } else if (isDigit(first)) {
                kind = NUMBER;
                to = endOfRow(false);
                value = to - from > MOST_DIGITS ? TOO_LONG : numberWithin();
            } else {
                kind = SIGN;
                to = from + 1;
            }
        }

        private int byteAt(int place) {
            return place >= 0 && place < length && place < text.length ? text[place] & 255 : NONE;
        }

        private static boolean isBlank(int sign) {
            return sign == 32 || sign == 10;
        }

        private static boolean isLetter(int sign) {
            return sign >= 'a' && sign <= 'z';
        }

        private static boolean isDigit(int sign) {
            return sign >= '0' && sign <= '9';
        }

        private int endOfRow(boolean isOfLetters) {
            int end = from + 1;
            for (int i = 0; i < MOST_BYTES && (isOfLetters ? isLetter(byteAt(end)) : isDigit(byteAt(end))); i++) {
                end++;
            }
            return end;
        }

        private int numberWithin() {
            int number = 0;
            for (int place = from; place < to; place++) {
                number = number * 10 + byteAt(place) - '0';
            }
            return number;
        }

        boolean isEnd() {
            return kind == END;
        }

        boolean isNumber() {
            return kind == NUMBER;
        }

        boolean isAnyWord() {
            return kind == WORD;
        }

        boolean isSign(char sign) {
            return kind == SIGN && byteAt(from) == sign;
        }

        boolean isWord(String word) {
            if (kind != WORD || to - from != word.length()) {
                return false;
            }
            for (int i = 0; i < word.length(); i++) {
                if (byteAt(from + i) != word.charAt(i)) {
                    return false;
                }
            }
            return true;
        }
    }

    /** Reads a MINT into a world and rules; each read...() tells whether there was no fault so far. */
    private static final class Reader {
        private static final int CANT_STAND = 1;
        private static final int TOO_MUCH = 2;
        private static final int UNKNOWN = 3;
        private static final int ONESELF = 4;
        private static final int SECOND = 5;
        private static final int MOST_DEPTH = 6;
        private static final int MOST_NOTS = 6;

        private final Tokens tokens;
        private final World world;
        private final Rules rules;
        private boolean isMintingTold = false;
        private boolean isNames = false;
        private int fault = 0;
        int place = NONE;

        Reader(Tokens tokens, World world, Rules rules) {
            this.tokens = tokens;
            this.world = world;
            this.rules = rules;
        }

        int readText(int n) {
            world.clear();
            rules.clear();
            isMintingTold = false;
            fault = 0;
            place = NONE;
            tokens.open(n);
            boolean isRead = true;
            for (int line = 0; line <= n && isRead && !tokens.isEnd(); line++) {
                isRead = readLine() && readSign(';');
            }
            dropPayeesNeverTold();
            return fault;
        }

        private boolean fail(int number) {
            fault = number;
            place = tokens.from;
            return false;
        }

        private void dropPayeesNeverTold() {
            for (int person = 0; person < MOST_PEOPLE; person++) {
                if (!world.isPerson(world.payee[person])) {
                    world.payee[person] = NONE;
                }
            }
        }

        private boolean readLine() {
            if (tokens.isWord("person")) {
                return readPerson(false);
            }
            if (tokens.isWord("beggar")) {
                return readPerson(true);
            }
            if (tokens.isWord("coin")) {
                return readCoin();
            }
            if (tokens.isWord("minting")) {
                return readMinting();
            }
            if (tokens.isWord("names")) {
                return readRule(true);
            }
            if (tokens.isWord("spends")) {
                return readRule(false);
            }
            return fail(CANT_STAND);
        }

        private boolean readSign(char sign) {
            if (!tokens.isSign(sign)) {
                return fail(CANT_STAND);
            }
            tokens.advance();
            return true;
        }

        /** Leaves the number as the token at hand, since a further fault would stand at its place. */
        private boolean isNumberWithin(int least, int most) {
            if (!tokens.isNumber()) {
                return fail(CANT_STAND);
            }
            return tokens.value >= least && tokens.value <= most || fail(TOO_MUCH);
        }

        private boolean readPerson(boolean isBeggar) {
            int who = world.people;
            if (who >= MOST_PEOPLE) {
                return fail(TOO_MUCH);
            }
            tokens.advance();
            if (!isNumberWithin(0, MOST_NEED)) {
                return false;
            }
            world.need[who] = tokens.value;
            tokens.advance();
            if (!isNumberWithin(0, MOST_STOCKING)) {
                return false;
            }
            world.stocking[who] = tokens.value;
            tokens.advance();
            world.beggars |= isBeggar ? 1 << who : 0;
            world.people++;
            return !tokens.isWord("pays") || readPayee(who);
        }

        private boolean readPayee(int who) {
            tokens.advance();
            if (!isNumberWithin(0, MOST_PEOPLE - 1)) {
                return false;
            }
            if (tokens.value == who) {
                return fail(ONESELF);
            }
            world.payee[who] = tokens.value;
            tokens.advance();
            return true;
        }

        private boolean readCoin() {
            if (world.coins >= MOST_COINS) {
                return fail(TOO_MUCH);
            }
            tokens.advance();
            if (!isNumberWithin(0, MOST_WORTH)) {
                return false;
            }
            int worth = tokens.value;
            tokens.advance();
            if (!isNumberWithin(0, Tokens.TOO_LONG - 1)) {
                return false;
            }
            if (!world.isPerson(tokens.value)) {
                return fail(UNKNOWN);
            }
            world.addCoin(worth, tokens.value);
            tokens.advance();
            return true;
        }

        private boolean readMinting() {
            if (isMintingTold) {
                return fail(SECOND);
            }
            isMintingTold = true;
            tokens.advance();
            if (!isNumberWithin(1, MOST_MINTING)) {
                return false;
            }
            world.minting = tokens.value;
            tokens.advance();
            return true;
        }

        private boolean readRule(boolean names) {
            if (rules.isTold(names)) {
                return fail(SECOND);
            }
            isNames = names;
            tokens.advance();
            rules.begin(names);
            if (!readExpression(0)) {
                return false;
            }
            rules.end(names);
            return true;
        }

        private boolean readExpression(int depth) {
            if (depth >= MOST_DEPTH) {
                boolean couldStand = tokens.isNumber() || tokens.isAnyWord() || tokens.isSign('(');
                return fail(couldStand ? TOO_MUCH : CANT_STAND);
            }
            if (!readAnd(depth)) {
                return false;
            }
            for (int i = 0; i < MOST_BYTES && tokens.isWord("or"); i++) {
                tokens.advance();
                if (!readAnd(depth)) {
                    return false;
                }
                rules.add(Rules.OR);
            }
            return true;
        }

        private boolean readAnd(int depth) {
            if (!readNot(depth)) {
                return false;
            }
            for (int i = 0; i < MOST_BYTES && tokens.isWord("and"); i++) {
                tokens.advance();
                if (!readNot(depth)) {
                    return false;
                }
                rules.add(Rules.AND);
            }
            return true;
        }

        private boolean readNot(int depth) {
            int nots = 0;
            for (int i = 0; i < MOST_NOTS && tokens.isWord("not"); i++) {
                tokens.advance();
                nots++;
            }
            if (nots == MOST_NOTS && tokens.isWord("not")) {
                return fail(TOO_MUCH);
            }
            if (!readTest(depth)) {
                return false;
            }
            for (int i = 0; i < nots; i++) {
                rules.add(Rules.NOT);
            }
            return true;
        }

        private boolean readTest(int depth) {
            if (!readSum(depth)) {
                return false;
            }
            boolean isLess = tokens.isSign('<');
            if (!isLess && !tokens.isSign('=')) {
                return true;
            }
            tokens.advance();
            if (!readSum(depth)) {
                return false;
            }
            rules.add(isLess ? Rules.LESS : Rules.SAME);
            return true;
        }

        private boolean readSum(int depth) {
            if (!readProduct(depth)) {
                return false;
            }
            for (int i = 0; i < MOST_BYTES && (tokens.isSign('+') || tokens.isSign('-')); i++) {
                int step = tokens.isSign('+') ? Rules.ADD : Rules.SUBTRACT;
                tokens.advance();
                if (!readProduct(depth)) {
                    return false;
                }
                rules.add(step);
            }
            return true;
        }

        private boolean readProduct(int depth) {
            if (!readPart(depth)) {
                return false;
            }
            for (int i = 0; i < MOST_BYTES && (tokens.isSign('*') || tokens.isSign('/')); i++) {
                int step = tokens.isSign('*') ? Rules.MULTIPLY : Rules.DIVIDE;
                tokens.advance();
                if (!readPart(depth)) {
                    return false;
                }
                rules.add(step);
            }
            return true;
        }

        private boolean readPart(int depth) {
            if (tokens.isSign('(')) {
                tokens.advance();
                return readExpression(depth + 1) && readSign(')');
            }
            int step = NONE;
            if (tokens.isAnyWord()) {
                step = valueAtHand();
                if (step == NONE) {
                    return fail(UNKNOWN);
                }
            } else {
                if (!isNumberWithin(0, Tokens.TOO_LONG - 1)) {
                    return false;
                }
                step = Rules.NUMBER + tokens.value;
            }
            rules.add(step);
            tokens.advance();
            return true;
        }

        private int valueAtHand() {
            if (tokens.isWord("need")) {
                return Rules.NEED;
            }
            if (tokens.isWord("has")) {
                return Rules.HAS;
            }
            if (tokens.isWord("coins")) {
                return Rules.COINS;
            }
            if (tokens.isWord("year")) {
                return Rules.YEAR;
            }
            if (isNames) {
                return tokens.isWord("stocking") ? Rules.STOCKING : NONE;
            }
            if (tokens.isWord("worth")) {
                return Rules.WORTH;
            }
            return tokens.isWord("theirs") ? Rules.THEIRS : NONE;
        }
    }

    /** All that an image keeps: the world, the acts that can be undone, what is seen, what was refused. */
    private static final class Memory {
        private static final int COINS_AT = MOST_PEOPLE;
        private static final int FALSE_AT = COINS_AT + MOST_COINS;
        private static final int CRUMBLED_AT = FALSE_AT + 1;
        private static final int MINTED_AT = FALSE_AT + 2;
        private static final int YEAR_AT = FALSE_AT + 3;
        private static final int ROW = FALSE_AT + 4;
        /** Holders and payees are at most 7, and NONE: one more fits below 16. */
        private static final int PACK = 16;

        final World world = new World();
        final int[] seenPerson = new int[MOST_SEEN];
        final int[] seenYears = new int[MOST_SEEN];
        int seen = 0;
        int acts = 0;
        private final int[] rows = new int[MOST_ACTS * ROW];
        private final int[] refusals = new int[3];

        void copyFrom(Memory other) {
            world.copyFrom(other.world);
            seen = other.seen;
            acts = other.acts;
            System.arraycopy(other.seenPerson, 0, seenPerson, 0, MOST_SEEN);
            System.arraycopy(other.seenYears, 0, seenYears, 0, MOST_SEEN);
            System.arraycopy(other.rows, 0, rows, 0, MOST_ACTS * ROW);
            System.arraycopy(other.refusals, 0, refusals, 0, 3);
        }

        void refuse(int kind) {
            if (kind >= 0 && kind < refusals.length) {
                refusals[kind]++;
            }
        }

        int refused(int kind) {
            return kind >= 0 && kind < refusals.length ? refusals[kind] : 0;
        }

        void keepSight(int person, int years) {
            if (seen >= 0 && seen < MOST_SEEN) {
                seenPerson[seen] = person;
                seenYears[seen] = years;
                seen++;
            }
        }

        /** To be called ahead of each act: keeps the world as it was. */
        void keepAct() {
            if (acts >= MOST_ACTS) {
                System.arraycopy(rows, ROW, rows, 0, (MOST_ACTS - 1) * ROW);
                acts = MOST_ACTS - 1;
            }
            writeRow(acts * ROW);
            acts++;
        }

        int undoAct() {
            if (acts <= 0) {
                return NONE;
            }
            acts--;
            readRow(acts * ROW);
            return acts;
        }

        private boolean isRow(int at) {
            return at >= 0 && at + ROW <= rows.length;
        }

        private void writeRow(int at) {
            if (!isRow(at)) {
                return;
            }
            for (int person = 0; person < MOST_PEOPLE; person++) {
                rows[at + person] = world.stocking[person] * PACK + world.payee[person] + 1;
            }
            for (int coin = 0; coin < MOST_COINS; coin++) {
                rows[at + COINS_AT + coin] = world.worth[coin] * PACK + world.holder[coin] + 1;
            }
            rows[at + FALSE_AT] = world.falseCoins;
            rows[at + CRUMBLED_AT] = world.crumbledCoins;
            rows[at + MINTED_AT] = world.coins;
            rows[at + YEAR_AT] = world.year;
        }

        private void readRow(int at) {
            if (!isRow(at)) {
                return;
            }
            for (int person = 0; person < MOST_PEOPLE; person++) {
                world.stocking[person] = rows[at + person] / PACK;
                world.payee[person] = rows[at + person] % PACK - 1;
            }
            for (int coin = 0; coin < MOST_COINS; coin++) {
                world.worth[coin] = rows[at + COINS_AT + coin] / PACK;
                world.holder[coin] = rows[at + COINS_AT + coin] % PACK - 1;
            }
            world.falseCoins = rows[at + FALSE_AT];
            world.crumbledCoins = rows[at + CRUMBLED_AT];
            world.coins = rows[at + MINTED_AT];
            world.year = rows[at + YEAR_AT];
        }
    }

    /** Where money goes by paying. */
    private static final class Payees {
        static int payers(World world, int person) {
            int bits = 0;
            for (int other = 0; other < world.people; other++) {
                if (world.payeeOf(other) == person) {
                    bits |= 1 << other;
                }
            }
            return bits;
        }

        static int reached(World world, int person) {
            int bits = 0;
            int at = world.payeeOf(person);
            for (int step = 0; step < MOST_PEOPLE && at != NONE; step++) {
                bits |= 1 << at;
                at = world.payeeOf(at);
            }
            return bits;
        }

        static int distance(World world, int person, int other) {
            int at = person;
            for (int step = 0; step < MOST_PEOPLE; step++) {
                if (at == other) {
                    return step;
                }
                at = world.payeeOf(at);
            }
            return NONE;
        }

        static int rings(World world) {
            int bits = 0;
            for (int person = 0; person < world.people; person++) {
                bits |= reached(world, person) & 1 << person;
            }
            return bits;
        }

        static int sinks(World world) {
            int bits = 0;
            for (int person = 0; person < world.people; person++) {
                if (world.payeeOf(person) == NONE && payers(world, person) != 0) {
                    bits |= 1 << person;
                }
            }
            return bits;
        }

        static int parts(World world) {
            int met = 0;
            int parts = 0;
            for (int person = 0; person < world.people; person++) {
                if ((met & 1 << person) == 0) {
                    met |= partOf(world, person);
                    parts++;
                }
            }
            return parts;
        }

        private static int partOf(World world, int person) {
            int part = 1 << person;
            // each round but the last adds somebody, so as many rounds as people are enough
            for (int round = 0; round < MOST_PEOPLE; round++) {
                for (int other = 0; other < world.people; other++) {
                    int payee = world.payeeOf(other);
                    int couple = payee == NONE ? 0 : 1 << other | 1 << payee;
                    if ((part & couple) != 0) {
                        part |= couple;
                    }
                }
            }
            return part;
        }
    }

    /** Sets of coins and what they are worth together. Sets are gone through from the least bits up. */
    private static final class Sums {
        private static final int MOST_SETS = 1 << MOST_COINS;
        private static final int HALF = MOST_COINS / 2;
        private static final int HALF_SETS = 1 << HALF;

        /** Of the lower and of the upper half of the coins: two small rows spare adding up each of 4096 sets. */
        private final int[] lowSums = new int[HALF_SETS];
        private final int[] highSums = new int[HALF_SETS];

        static int moneyOf(World world, int person) {
            return world.heldBy(person) & ~world.gifts();
        }

        /** From now on sumOf() tells by how much the own ones of a set are worth more than the others of it. */
        private void addUp(World world, int own, int others) {
            for (int set = 1; set < HALF_SETS; set++) {
                int coin = Integer.numberOfTrailingZeros(set);
                int rest = set & set - 1;
                lowSums[set] = lowSums[rest] + valueOf(world, coin, own, others);
                highSums[set] = highSums[rest] + valueOf(world, coin + HALF, own, others);
            }
        }

        private static int valueOf(World world, int coin, int own, int others) {
            int value = coin >= 0 && coin < MOST_COINS ? world.worth[coin] : 0;
            if ((own & 1 << coin) != 0) {
                return value;
            }
            return (others & 1 << coin) != 0 ? -value : 0;
        }

        private int sumOf(int set) {
            return lowSums[set & HALF_SETS - 1] + highSums[set >> HALF & HALF_SETS - 1];
        }

        private static int setBehind(int set, int all) {
            return set - all & all;
        }

        /** The fewest coins whose own ones are worth just the sum more than the others among them; NONE. */
        int fewest(World world, int own, int others, int sum) {
            addUp(world, own, others);
            int best = NONE;
            int set = 0;
            for (int i = 0; i < MOST_SETS; i++) {
                boolean isJust = sumOf(set) == sum;
                if (isJust && (best == NONE || Integer.bitCount(set) < Integer.bitCount(best))) {
                    best = set;
                }
                set = setBehind(set, own | others);
                if (set == 0) {
                    break;
                }
            }
            return best;
        }

        int countSets(World world, int all, int sum) {
            addUp(world, all, 0);
            int many = 0;
            int set = 0;
            for (int i = 0; i < MOST_SETS; i++) {
                if (sumOf(set) == sum) {
                    many++;
                }
                set = setBehind(set, all);
                if (set == 0) {
                    break;
                }
            }
            return many;
        }

        int fairest(World world, int all) {
            addUp(world, all, 0);
            int best = 0;
            int set = 0;
            for (int i = 0; i < MOST_SETS; i++) {
                if (apart(all, set) < apart(all, best)) {
                    best = set;
                }
                set = setBehind(set, all);
                if (set == 0) {
                    break;
                }
            }
            return best;
        }

        /** Only behind fairest(), which adds up. */
        int apart(int all, int set) {
            return Math.abs(sumOf(all) - 2 * sumOf(set));
        }

        static int leastUnpaid(World world, int all) {
            // all sums below this one can be paid, and a coin worth no more than it makes room for more
            int unpaid = 1;
            int left = all;
            for (int round = 0; round < MOST_COINS; round++) {
                for (int coin = 0; coin < MOST_COINS; coin++) {
                    if ((left & 1 << coin) != 0 && world.worth[coin] <= unpaid) {
                        unpaid += world.worth[coin];
                        left &= ~(1 << coin);
                    }
                }
            }
            return unpaid;
        }
    }

    /** What comes, if only years go by. */
    private static final class Course {
        private final World now;
        private final World run;
        private final Rules rules;

        Course(World now, World run, Rules rules) {
            this.now = now;
            this.run = run;
            this.rules = rules;
        }

        void goTo(int years) {
            run.copyFrom(now);
            run.goYears(years, rules);
        }

        int nextNamer() {
            run.copyFrom(now);
            for (int gone = 0; gone < FORESIGHT; gone++) {
                int poorest = run.poorest();
                run.goYear(rules);
                if (run.coins > now.coins) {
                    return poorest;
                }
            }
            return NONE;
        }

        /** NONE as a person asks when nobody holds the coin. */
        int yearsUntilHeld(int coin, int person) {
            if (!now.isCoin(coin)) {
                return NONE;
            }
            run.copyFrom(now);
            for (int gone = 0; gone <= FORESIGHT; gone++) {
                if (run.holder[coin] == person) {
                    return gone;
                }
                run.goYear(rules);
            }
            return NONE;
        }

        int holdersWithin(int coin, int years) {
            if (!now.isCoin(coin)) {
                return 0;
            }
            int bits = 0;
            run.copyFrom(now);
            for (int gone = 0; gone <= years; gone++) {
                if (run.isPerson(run.holder[coin])) {
                    bits |= 1 << run.holder[coin];
                }
                run.goYear(rules);
            }
            return bits;
        }

        int worthFor(int coin, int person, int years) {
            if (!now.isCoin(coin)) {
                return NONE;
            }
            for (int worth = 0; worth <= MOST_WORTH; worth++) {
                run.copyFrom(now);
                run.worth[coin] = worth;
                run.goYears(years, rules);
                if (run.poorest() == person) {
                    return worth;
                }
            }
            return NONE;
        }
    }

    /** Whose need was another, by what was seen. */
    private static final class Guess {
        private static final int NEEDS = MOST_NEED + 1;
        private static final int LOOK_YEARS = 8;

        private final Memory memory;
        private final World now;
        private final World run;
        private final Rules rules;
        /** Of each coin who would hold it, as bits, moved up by one to make room for nobody. */
        private final int[] holders = new int[MOST_COINS];

        Guess(Memory memory, World run, Rules rules) {
            this.memory = memory;
            this.now = memory.world;
            this.run = run;
            this.rules = rules;
        }

        int countNeedy() {
            int many = 0;
            for (int couple = 0; couple < now.people * NEEDS; couple++) {
                if (startWith(couple) && isAllSeen()) {
                    many++;
                }
            }
            return many;
        }

        int firstNeedy() {
            for (int couple = 0; couple < now.people * NEEDS; couple++) {
                if (startWith(couple) && isAllSeen()) {
                    return couple;
                }
            }
            return NONE;
        }

        boolean isSeenWithout() {
            run.copyFrom(now);
            return isAllSeen();
        }

        int coinToLookAt() {
            Arrays.fill(holders, 0);
            for (int couple = 0; couple < now.people * NEEDS; couple++) {
                if (startWith(couple) && isAllSeen()) {
                    noteHolders(couple);
                }
            }
            int best = NONE;
            for (int coin = 0; coin < MOST_COINS; coin++) {
                if (unlikeHolders(coin) > unlikeHolders(best)) {
                    best = coin;
                }
            }
            return best;
        }

        int unlikeHolders(int coin) {
            return coin >= 0 && coin < MOST_COINS ? Integer.bitCount(holders[coin]) : 0;
        }

        /** False, if the couple (10 by who, and a need) is not another need than that one has. */
        private boolean startWith(int couple) {
            int who = couple / NEEDS;
            int need = couple % NEEDS;
            if (!now.isPerson(who) || now.need[who] == need) {
                return false;
            }
            run.copyFrom(now);
            run.need[who] = need;
            return true;
        }

        private boolean isAllSeen() {
            int last = lastYearSeen();
            for (int gone = 0; gone <= last; gone++) {
                if (gone > 0) {
                    run.goYear(rules);
                }
                if (!isSeenAt(gone, run.poorest())) {
                    return false;
                }
            }
            return true;
        }

        private int lastYearSeen() {
            int last = NONE;
            for (int i = 0; i < memory.seen && i < MOST_SEEN; i++) {
                last = Math.max(last, memory.seenYears[i]);
            }
            return last;
        }

        private boolean isSeenAt(int gone, int poorest) {
            for (int i = 0; i < memory.seen && i < MOST_SEEN; i++) {
                if (memory.seenYears[i] == gone && memory.seenPerson[i] != poorest) {
                    return false;
                }
            }
            return true;
        }

        private void noteHolders(int couple) {
            if (!startWith(couple)) {
                return;
            }
            for (int gone = 0; gone < LOOK_YEARS; gone++) {
                run.goYear(rules);
            }
            for (int coin = 0; coin < MOST_COINS; coin++) {
                holders[coin] |= 1 << run.holder[coin] + 1;
            }
        }
    }

    /** Thieves, the game of two, and ages by a seed. */
    private static final class Play {
        private static final int GAME_YEARS = 6;
        private static final int KINDS_OF_FATE = 6;
        private static final int DRAWN_STOCKINGS = 5;

        private final World now;
        private final World run;
        private final Rules rules;
        /** By the couple of choices, the first one's twofold and the other one's. */
        private final int[] firstGains = new int[4];
        private final int[] otherGains = new int[4];
        private int firstChoices = 1;
        private int otherChoices = 1;
        private int seed = 0;

        Play(World now, World run, Rules rules) {
            this.now = now;
            this.run = run;
            this.rules = rules;
        }

        int chancePoorest(int person, int years, int tenths) {
            int chance = 0;
            for (int thefts = 0; thefts < 1 << years; thefts++) {
                int weight = weightOf(thefts, years, tenths);
                if (weight > 0 && poorestAfter(thefts, years) == person) {
                    chance += weight;
                }
            }
            return chance;
        }

        private static int weightOf(int thefts, int years, int tenths) {
            int weight = 1;
            for (int year = 0; year < years; year++) {
                weight *= (thefts & 1 << year) != 0 ? tenths : MOST_TENTHS - tenths;
            }
            return weight;
        }

        private int poorestAfter(int thefts, int years) {
            run.copyFrom(now);
            for (int year = 0; year < years; year++) {
                if ((thefts & 1 << year) != 0) {
                    int whole = (1 << run.coins) - 1 & ~run.crumbledCoins;
                    run.handTo(run.dearest(whole), run.poorest());
                }
                run.goYear(rules);
            }
            return run.poorest();
        }

        void playOut(int first, int other) {
            int firstCoin = now.dearest(Sums.moneyOf(now, first));
            int otherCoin = now.dearest(Sums.moneyOf(now, other));
            firstChoices = firstCoin == NONE ? 1 : 2;
            otherChoices = otherCoin == NONE ? 1 : 2;
            for (int couple = 0; couple < 4; couple++) {
                run.copyFrom(now);
                if (couple / 2 == 1) {
                    run.handTo(firstCoin, other);
                }
                if (couple % 2 == 1) {
                    run.handTo(otherCoin, first);
                }
                run.goYears(GAME_YEARS, rules);
                firstGains[couple] = gainOf(first);
                otherGains[couple] = gainOf(other);
            }
        }

        private int gainOf(int person) {
            return run.wealthOf(person) / 10 + (run.poorest() == person ? 0 : 3);
        }

        int countRests() {
            int many = 0;
            for (int couple = 0; couple < 4; couple++) {
                if (isRest(couple)) {
                    many++;
                }
            }
            return many;
        }

        int firstRest() {
            for (int couple = 0; couple < 4; couple++) {
                if (isRest(couple)) {
                    return 10 * (couple / 2) + couple % 2;
                }
            }
            return NONE;
        }

        private boolean isRest(int couple) {
            if (couple < 0 || couple >= 4 || couple / 2 >= firstChoices || couple % 2 >= otherChoices) {
                return false;
            }
            boolean firstRests = firstChoices < 2 || firstGains[couple ^ 2] <= firstGains[couple];
            boolean otherRests = otherChoices < 2 || otherGains[couple ^ 1] <= otherGains[couple];
            return firstRests && otherRests;
        }

        void goAges(int newSeed, int years) {
            seed = newSeed;
            run.copyFrom(now);
            for (int gone = 0; gone < years; gone++) {
                meetFate(draw(KINDS_OF_FATE));
                run.goYear(rules);
            }
        }

        private int draw(int n) {
            seed = seed * 1103515245 + 12345;
            return n > 0 ? (seed >>> 16 & 32767) % n : 0;
        }

        private void meetFate(int kind) {
            if (run.people == 0) {
                return;
            }
            if (kind == 0 && run.coins > 0) {
                int coin = draw(run.coins);
                run.handTo(coin, draw(run.people));
            } else if (kind == 1) {
                int who = draw(run.people);
                int stocking = draw(DRAWN_STOCKINGS);
                if (run.isPerson(who)) {
                    run.stocking[who] = stocking;
                }
            } else if (kind == 2) {
                int who = draw(run.people);
                int payee = draw(run.people);
                if (run.isPerson(who)) {
                    run.payee[who] = payee == who ? NONE : payee;
                }
            }
        }
    }
}
