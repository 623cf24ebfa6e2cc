/** One method a promise (or a few for a rich one), with answers that were found by hand. */
public final class PromiseTest {
    private static final int NONE = -1;

    /** Person 0 hands coin 1 on in the first year; person 1 names gifts in the fourth and the eighth. */
    private static final String TWO = "person 2 0 pays 1;person 0 0;coin 10 0;coin 5 0;";
    /** One who names false coins each year: 10, then 1 (crumbles at once), then 2, .. */
    private static final String FALSE = "person 1 3;minting 1;";
    /** A gift goes round three people. */
    private static final String ROUND = "person 1 0 pays 1;person 1 0 pays 2;person 1 0 pays 0;coin 0 0;minting 9;";

    public static void main(String[] args) {
        newObject();
        feed();
        mint();
        fault();
        count();
        person();
        coin();
        years();
        yearsByRules();
        give();
        search();
        pays();
        anew();
        undo();
        then();
        has();
        later();
        next();
        gets();
        hands();
        crumbles();
        comesTo();
        steps();
        toPay();
        change();
        share();
        lacks();
        toName();
        see();
        needy();
        look();
        forget();
        thieves();
        game();
        ages();
        image();
        restore();
        Check.end("PromiseTest");
    }

    private static void due(String what, long got, long want) {
        Check.due(what, got, want);
    }

    private static void newObject() {
        NamedCoins x = new NamedCoins();
        due("NONE", NamedCoins.NONE, -1);
        int[] counts = {0, 0, 0, 4, NONE, 0, 0, 0, 0, 0, 0, 0, 0, 0, 0, 0, 0};
        for (int what = 0; what < counts.length; what++) {
            due("new count " + what, x.count(what), counts[what]);
        }
        due("new fault", x.fault(), NONE);
        due("new undo", x.undo(), NONE);
        due("new next", x.next(), NONE);
        Check.due("new restore", x.restore(), false);
        Check.noSuch("new person", () -> x.person(0, 0));
        Check.noSuch("new coin", () -> x.coin(0, 0));
        due("new years", x.years(20), 20);
        due("nobody names", x.count(1), 0);
    }

    private static void feed() {
        NamedCoins x = new NamedCoins();
        due("highest first", x.feed('p' << 24 | 'e' << 16 | 'r' << 8 | 's', 'o' << 24 | 'n' << 16 | ' ' << 8 | '7',
                ' ' << 24 | '2' << 16 | '9' << 8 | ';', -1, -1), 20);
        due("what was fed", x.mint(12), 0);
        due("need fed", x.person(0, 0), 7);
        due("stocking fed", x.person(0, 1), 29);
        due("tape emptied", x.count(13), 0);
        for (int i = 1; i <= 35; i++) {
            due("feed " + i, x.feed(0, 0, 0, 0, 0), 20 * i);
        }
        due("too much", x.feed(0, 0, 0, 0, 0), NONE);
        due("none came", x.count(13), 700);
        due("byte 0 is no token", x.mint(700), 1);
        due("place of it", x.fault(), 0);
        due("again from the start", x.feed(0, 0, 0, 0, 0), 20);
    }

    private static void mint() {
        NamedCoins x = Check.told(TWO);
        x.years(2);
        x.see(0, 1);
        x.image();
        x.years(0);
        Check.feedText(x, "person 9 9;coin;    ");
        Check.illegal("more than the tape has", () -> x.mint(21));
        Check.illegal("below 0", () -> x.mint(-1));
        due("tape stays", x.count(13), 20);
        due("fault of", x.mint(20), 1);
        due("tape is empty", x.count(13), 0);
        due("people stay", x.count(0), 2);
        due("need stays", x.person(0, 0), 2);
        due("year stays", x.count(2), 2);
        due("acts stay", x.count(11), 1);
        due("seen stays", x.count(12), 1);
        due("status 0", x.count(14), 1);
        Check.due("image stays", x.restore(), true);
        due("restored status", x.count(14), 0);
        due("status 1 refused behind the image", x.count(15), 0);
        x.years(0);
        Check.feedText(x, "person 9 9;coin;    ");
        due("only the first bytes", x.mint(11), 0);
        due("people anew", x.count(0), 1);
        due("coins anew", x.count(1), 0);
        due("year anew", x.count(2), 0);
        due("acts gone", x.count(11), 0);
        due("seen gone", x.count(12), 0);
        due("refused calls stay", x.count(15), 1);
        Check.due("image gone", x.restore(), false);
        due("nothing to undo", x.undo(), NONE);
        due("empty text", x.mint(0), 0);
        due("nobody", x.count(0), 0);
        mintForgetsRules();
        mintForgetsTrials();
    }

    /** What was foreseen ahead of a text must not show behind it. */
    private static void mintForgetsTrials() {
        NamedCoins x = Check.told("person 0 5 pays 1;person 0 0;coin 9 0;minting 1;names 7;");
        x.later(6, 0);
        due("minting told again", Check.tell(x, "person 0 0;person 0 0;minting 2;"), 0);
        due("pays nobody", x.person(0, 2), NONE);
        due("year", x.count(2), 0);
        due("none false", x.count(5), 0);
        due("none crumbled", x.count(6), 0);
        due("no holder", x.then(0, 0, 0), NONE);
        due("no worth", x.then(0, 0, 1), 0);
    }

    private static void mintForgetsRules() {
        NamedCoins x = Check.told("beggar 9 9;minting 1;names 50;spends 1;");
        due("second text", Check.tell(x, "person 3 0 pays 1;person 9 0;coin 99 1;coin 9 0;"), 0);
        due("usual minting", x.count(3), 4);
        due("no beggar", x.person(0, 6), 0);
        x.years(3);
        due("usual spending: more than half stays", x.coin(1, 1), 0);
        x.years(1);
        due("usual naming: ten needs less what one has", x.coin(2, 0), 21);
        due("9 is no more than half of 30", x.coin(1, 1), 1);
        due("pays behind, never told", Check.told("person 1 1 pays 5;").person(0, 2), NONE);
        due("pays behind, told", Check.told("person 1 1 pays 1;person 1 1;").person(0, 2), 1);
    }

    private static void fault() {
        NamedCoins x = new NamedCoins();
        due("before any", x.fault(), NONE);
        Check.tell(x, "person 1 31;");
        due("place", x.fault(), 9);
        Check.illegal("no such n", () -> x.mint(1));
        due("place stays", x.fault(), 9);
        Check.tell(x, "person 1 3;");
        due("without", x.fault(), NONE);
    }

    private static void count() {
        NamedCoins x = Check.told("person 1 0 pays 1;person 2 1 pays 0;beggar 3 0 pays 3;person 4 0;person 5 0;"
                + "coin 20 0;coin 6 1;coin 0 3;coin 13 2;coin 9 3;coin 8 4;minting 2;");
        due("people", x.count(0), 5);
        due("coins", x.count(1), 6);
        due("year", x.count(2), 0);
        due("minting", x.count(3), 2);
        due("poorest: 6, and half of 13 is 6", x.count(4), 1);
        due("false", x.count(5), 0);
        due("crumbled", x.count(6), 0);
        due("gifts", x.count(7), 4);
        due("rings", x.count(8), 3);
        due("sink", x.count(9), 8);
        due("parts", x.count(10), 3);
        x.give(1, 0);
        x.search(0);
        x.see(0, 30);
        x.see(0, 3);
        due("acts", x.count(11), 1);
        due("seen", x.count(12), 1);
        due("refused texts", x.count(14), 0);
        due("refused acts", x.count(15), 1);
        due("refused sights", x.count(16), 1);
        x.feed(0, 0, 0, 0, 0);
        due("tape", x.count(13), 20);
        Check.noSuch("count -1", () -> x.count(-1));
        Check.noSuch("count 17", () -> x.count(17));
        NamedCoins y = Check.told(FALSE);
        y.years(3);
        due("false bits", y.count(5), 5);
        due("crumbled bits", y.count(6), 2);
        due("crumbled ones are coins", y.count(1), 3);
        due("crumbled ones are no gifts", y.count(7), 0);
        due("one is poorest of a beggar's half", Check.told("person 0 0;beggar 0 0;coin 5 0;coin 9 1;").count(4), 1);
        due("of like ones the least", Check.told("person 0 0;beggar 0 0;coin 4 0;coin 9 1;").count(4), 0);
    }

    private static void person() {
        NamedCoins x = Check.told("person 7 3 pays 2;beggar 1 0;person 2 0 pays 1;person 0 0 pays 2;"
                + "coin 9 1;coin 0 1;coin 7 2;");
        int[] wanted = {1, 0, NONE, 9, 3, 4, 1};
        for (int what = 0; what < wanted.length; what++) {
            due("person 1 " + what, x.person(1, what), wanted[what]);
        }
        due("need", x.person(0, 0), 7);
        due("stocking", x.person(0, 1), 3);
        due("pays", x.person(0, 2), 2);
        due("payers", x.person(2, 5), 9);
        due("no beggar", x.person(2, 6), 0);
        Check.noSuch("person 4", () -> x.person(4, 0));
        Check.noSuch("person -1", () -> x.person(-1, 0));
        Check.noSuch("what 7", () -> x.person(0, 7));
        Check.noSuch("what -1", () -> x.person(0, -1));
    }

    private static void coin() {
        NamedCoins x = Check.told(FALSE);
        x.years(2);
        int[][] wanted = {{8, 0, 1, 0}, {0, NONE, 0, 1}};
        for (int coin = 0; coin < 2; coin++) {
            for (int what = 0; what < 4; what++) {
                due("coin " + coin + " " + what, x.coin(coin, what), wanted[coin][what]);
            }
        }
        Check.noSuch("not minted yet", () -> x.coin(2, 0));
        Check.noSuch("coin -1", () -> x.coin(-1, 0));
        Check.noSuch("what 4", () -> x.coin(0, 4));
        Check.noSuch("what -1", () -> x.coin(0, -1));
    }

    private static void years() {
        NamedCoins x = Check.told(TWO);
        due("years 0", x.years(0), NONE);
        due("years 21", x.years(21), NONE);
        due("years -5", x.years(-5), NONE);
        due("years most", x.years(Integer.MAX_VALUE), NONE);
        due("refused", x.count(15), 4);
        due("one year", x.years(1), 1);
        due("coin 1 is spent", x.coin(1, 1), 1);
        due("coin 0 is too much", x.coin(0, 1), 0);
        due("three more", x.years(3), 4);
        due("a gift is named", x.coin(2, 0), 0);
        due("by the poorest", x.coin(2, 1), 1);
        due("not false", x.coin(2, 2), 0);
        for (int i = 0; i < 49; i++) {
            x.years(20);
        }
        due("year", x.count(2), 984);
        due("above 999", x.years(16), NONE);
        due("to 999", x.years(15), 999);
        due("behind it", x.years(1), NONE);
        due("no thirteenth coin", x.count(1), 12);
        falseCoins();
        turns();
    }

    private static void falseCoins() {
        NamedCoins x = Check.told(FALSE);
        x.years(1);
        due("false one has 1 less at once", x.coin(0, 0), 9);
        due("false", x.coin(0, 2), 1);
        x.years(1);
        due("named 1, crumbled at once", x.coin(1, 3), 1);
        x.years(1);
        due("crumbled ones give nothing", x.coin(2, 0), 1);
        NamedCoins y = Check.told("person 0 1 pays 1;person 9 0;coin 9 1;minting 1;");
        due("a false gift is passed on", y.later(1, 3), 1);
        y.years(1);
        due("and crumbles", y.coin(1, 3), 1);
        due("nobody holds it", y.coin(1, 1), NONE);
        due("no longer false", y.coin(1, 2), 0);
        NamedCoins full = Check.told("person 0 1;minting 1;");
        full.years(14);
        due("crumbled ones count among twelve", full.count(1), 12);
        due("all crumbled", full.count(6), 4095);
    }

    private static void turns() {
        // coin 0 goes to 1 and is there when coin 1 is asked, but goes only once a year
        NamedCoins x = Check.told("person 0 0 pays 1;person 0 0 pays 2;person 0 0;coin 4 0;coin 5 1;coin 6 0;"
                + "minting 9;");
        x.years(1);
        due("4 is no more than half of 10", x.coin(0, 1), 1);
        due("5 is more than half of 9", x.coin(1, 1), 1);
        due("6 is more than half of 6", x.coin(2, 1), 0);
        x.years(1);
        due("4 is no more than half of 9", x.coin(0, 1), 2);
        due("5 is more than half of 5", x.coin(1, 1), 1);
        NamedCoins y = Check.told("person 0 0 pays 1;person 0 0;coin 3 0;coin 3 0;coin 1 0;minting 9;");
        y.years(1);
        due("3 of 7", y.coin(0, 1), 1);
        due("3 of 4", y.coin(1, 1), 0);
        due("1 of 4", y.coin(2, 1), 1);
    }

    private static void names(String rule, int worth) {
        NamedCoins x = Check.told("beggar 7 0;person 1 0;coin 3 0;coin 0 0;coin 90 1;minting 3;names " + rule + ";");
        x.years(3);
        due("names " + rule, x.coin(3, 0), worth);
    }

    private static void spends(String rule, int goers) {
        NamedCoins x = Check.told("person 4 0 pays 1;person 6 0;coin 5 0;coin 7 0;coin 2 1;minting 9;spends "
                + rule + ";");
        x.years(1);
        due("spends " + rule, x.person(1, 4), goers | 4);
    }

    private static void yearsByRules() {
        names("1+2*3", 7);
        names("(1+2)*3", 9);
        names("7-3-2", 2);
        names("20/3/2", 3);
        names("8/2*3", 12);
        names("10+(0-7)/2", 7);
        names("3-4", 0);
        names("5/0+4", 4);
        names("100", 99);
        names("99", 99);
        names("1<2", 1);
        names("2<2", 0);
        names("2=2", 1);
        names("2=3", 0);
        names("not 0", 1);
        names("not 5", 0);
        names("not not 5", 1);
        names("not 1=2", 1);
        names("not 1+0", 0);
        names("5 and 3", 1);
        names("5 and 0", 0);
        names("0 or 7", 1);
        names("0 or 0", 0);
        names("1 or 0 and 0", 1);
        names("(1 or 0) and 0", 0);
        names("1+1=2 and 3", 1);
        names("0-5 and 1", 1);
        names("has", 3);
        names("need", 7);
        names("coins", 3);
        names("year", 2);
        names("stocking", 0);
        names("has*10+need", 37);
        due("stocking is named, and false", namesStocking(), 11);
        NamedCoins turned = Check.told("spends 0-7;names 6;minting 1;person 0 0 pays 1;person 0 0;coin 9 1;");
        turned.years(1);
        due("rules in the other order: names", turned.coin(1, 0), 6);
        due("rules in the other order: spends", turned.coin(1, 1), 0);
        spends("1", 3);
        spends("0", 0);
        spends("0-1", 0);
        spends("worth=7", 2);
        spends("theirs", 3);
        spends("theirs<3", 1);
        spends("has=12", 1);
        spends("has<8", 0);
        spends("need=4", 3);
        spends("need=6", 0);
        spends("coins=3", 3);
        spends("year=0", 3);
        spends("year", 0);
        wraps();
        crumbledOnesArentCounted();
    }

    private static int namesStocking() {
        NamedCoins x = Check.told("person 0 12;minting 1;names stocking;");
        x.years(1);
        return x.coin(0, 0);
    }

    private static void wraps() {
        int wrapped = 9999 * 9999 * 43;
        NamedCoins x = Check.told("person 0 0;minting 1;names (9999*9999*43)/9999/9999;");
        x.years(1);
        due("ints wrap", x.coin(0, 0), Math.max(0, Math.min(99, wrapped / 9999 / 9999)));
        due("which shows here", wrapped / 9999 / 9999 == 43 ? 1 : 0, 0);
        NamedCoins y = Check.told("person 0 0;minting 1;names 0-(4096*4096*128)/(0-1)<0;");
        y.years(1);
        due("the least int by -1 is itself, and less than nothing it stays", y.coin(0, 0), 1);
    }

    private static void crumbledOnesArentCounted() {
        NamedCoins x = Check.told("person 0 1;coin 5 0;minting 1;names coins;");
        x.years(1);
        due("named 1, crumbled", x.coin(1, 3), 1);
        x.years(1);
        due("still only one that isn't crumbled", x.coin(2, 3), 1);
        NamedCoins y = Check.told("person 0 0 pays 1;person 0 0;coin 9 1;minting 1;names 30;spends coins=2;");
        y.years(1);
        due("the new one counts when it is its turn", y.coin(1, 1), 1);
    }

    private static void give() {
        NamedCoins x = Check.told(TWO);
        due("given", x.give(0, 1), 0);
        due("held", x.coin(0, 1), 1);
        due("that one holds it", x.give(0, 1), NONE);
        due("refused", x.count(15), 1);
        due("one act", x.count(11), 1);
        Check.noSuch("no coin", () -> x.give(2, 0));
        Check.noSuch("no coin -1", () -> x.give(-1, 0));
        Check.noSuch("no person", () -> x.give(0, 2));
        Check.noSuch("no person -1", () -> x.give(0, -1));
        due("not refused so", x.count(15), 1);
        NamedCoins y = Check.told(FALSE);
        y.years(2);
        due("crumbled", y.give(1, 0), NONE);
        due("crumbled refused", y.count(15), 1);
        Check.noSuch("ahead of it", () -> y.give(1, 1));
    }

    private static void search() {
        NamedCoins x = Check.told(FALSE);
        due("searched", x.search(0), 3);
        due("stocking", x.person(0, 1), 0);
        due("again", x.search(0), NONE);
        due("refused", x.count(15), 1);
        Check.noSuch("person 1", () -> x.search(1));
        Check.noSuch("person -1", () -> x.search(-1));
        x.years(1);
        due("named true now", x.coin(0, 2), 0);
        due("whole", x.coin(0, 0), 10);
    }

    private static void pays() {
        NamedCoins x = Check.told(TWO);
        due("it is so", x.pays(0, 1), -2);
        due("it is oneself", x.pays(0, 0), -2);
        due("nobody is so", x.pays(1, NONE), -2);
        due("refused", x.count(15), 3);
        due("now pays nobody", x.pays(0, NONE), 1);
        due("now pays", x.person(0, 2), NONE);
        due("from nobody", x.pays(1, 0), NONE);
        due("pays 0", x.person(1, 2), 0);
        due("acts", x.count(11), 2);
        Check.noSuch("person 2", () -> x.pays(2, 0));
        Check.noSuch("person -1", () -> x.pays(-1, 0));
        Check.noSuch("other 2", () -> x.pays(0, 2));
        Check.noSuch("other -2", () -> x.pays(0, -2));
        due("no more refused", x.count(15), 3);
    }

    private static void anew() {
        NamedCoins x = Check.told(FALSE);
        x.years(2);
        due("below", x.anew(0, -1), NONE);
        due("above", x.anew(0, 100), NONE);
        due("crumbled", x.anew(1, 5), NONE);
        due("refused", x.count(15), 3);
        due("the one it has", x.anew(0, 8), 8);
        due("false no more", x.coin(0, 2), 0);
        due("to 99", x.anew(0, 99), 8);
        due("to 0", x.anew(0, 0), 99);
        due("a gift", x.count(7), 1);
        due("acts", x.count(11), 4);
        Check.noSuch("not minted", () -> x.anew(2, 5));
        Check.noSuch("coin -1", () -> x.anew(-1, 500));
    }

    private static void undo() {
        NamedCoins x = Check.told("person 1 3 pays 1;person 2 4;coin 9 0;minting 1;");
        x.years(2);
        x.give(0, 1);
        x.search(0);
        x.pays(0, NONE);
        x.anew(0, 50);
        due("worth back", x.undo(), 4);
        due("worth", x.coin(0, 0), 9);
        due("payee back", x.undo(), 3);
        due("payee", x.person(0, 2), 1);
        due("stocking back", x.undo(), 2);
        due("stocking", x.person(0, 1), 3);
        due("coin back", x.undo(), 1);
        due("years back", x.undo(), 0);
        due("holder", x.coin(0, 1), 0);
        due("year", x.count(2), 0);
        due("coins", x.count(1), 1);
        due("false", x.count(5), 0);
        Check.noSuch("coin 1 is gone", () -> x.coin(1, 0));
        due("none", x.undo(), NONE);
        due("not refused", x.count(15), 0);
        for (int i = 0; i < 45; i++) {
            x.anew(0, i);
        }
        due("forty are kept", x.count(11), 40);
        for (int left = 39; left >= 0; left--) {
            due("left", x.undo(), left);
            due("worth at " + left, x.coin(0, 0), left + 4);
        }
        due("as behind the fifth", x.coin(0, 0), 4);
        due("no more", x.undo(), NONE);
        NamedCoins y = Check.told(FALSE);
        y.years(1);
        y.anew(0, 7);
        y.undo();
        due("false again", y.coin(0, 2), 1);
        y.years(12);
        y.undo();
        due("not crumbled again", y.count(6), 0);
        y.years(1);
        y.anew(0, 7);
        y.undo();
        due("crumbled ahead of the act", y.count(6), 2);
        due("and the year", y.count(2), 2);
        due("and the coins", y.count(1), 2);
        due("and their holders", y.coin(0, 1), 0);
        NamedCoins z = Check.told(TWO);
        z.years(1);
        z.pays(0, NONE);
        z.undo();
        due("holders", z.person(1, 4), 2);
    }

    private static void then() {
        NamedCoins x = Check.told(TWO);
        due("now", x.then(1, 0, 0), 0);
        due("behind a year", x.then(1, 1, 0), 1);
        due("worth", x.then(0, 60, 1), 10);
        due("not minted", x.then(2, 3, 0), NONE);
        due("worth not minted", x.then(2, 3, 1), 0);
        due("minted", x.then(2, 4, 0), 1);
        due("never minted", x.then(11, 39, 0), NONE);
        due("last one minted", x.then(11, 40, 0), 1);
        Check.noSuch("coin 12", () -> x.then(12, 61, 0));
        Check.noSuch("coin -1", () -> x.then(-1, 0, 0));
        Check.noSuch("what 2", () -> x.then(0, -1, 2));
        Check.noSuch("what -1", () -> x.then(0, 0, -1));
        Check.illegal("years 61", () -> x.then(0, 61, 0));
        Check.illegal("years -1", () -> x.then(0, -1, 1));
        due("nothing has changed", x.coin(1, 1), 0);
        due("no act", x.count(11), 0);
        NamedCoins y = Check.told(FALSE);
        due("crumbled then", y.then(1, 2, 0), NONE);
        due("worth 0 then", y.then(1, 2, 1), 0);
        due("worn", y.then(0, 3, 1), 7);
    }

    private static void has() {
        NamedCoins x = Check.told(TWO);
        due("now", x.has(0, 0), 15);
        due("a year", x.has(0, 1), 10);
        due("the other", x.has(1, 1), 5);
        due("a beggar has all", Check.told("beggar 0 0;coin 9 0;").has(0, 0), 9);
        Check.noSuch("person 2", () -> x.has(2, 61));
        Check.noSuch("person -1", () -> x.has(-1, 0));
        Check.illegal("61", () -> x.has(0, 61));
        Check.illegal("-1", () -> x.has(0, -1));
    }

    private static void later() {
        NamedCoins x = Check.told(TWO);
        due("poorest", x.later(0, 0), 1);
        due("richest", x.later(0, 1), 0);
        due("named 3", x.later(3, 2), 0);
        due("named 4", x.later(4, 2), 1);
        due("named 60", x.later(60, 2), 10);
        due("passed 0", x.later(0, 3), 0);
        due("passed 60", x.later(60, 3), 1);
        due("gifts pass", Check.told(ROUND).later(7, 3), 7);
        NamedCoins beggars = Check.told("person 0 0;beggar 0 0;beggar 0 0;coin 5 0;coin 9 1;coin 9 2;minting 9;");
        due("beggars by half", beggars.later(1, 0), 1);
        due("beggars whole, of like ones the least", beggars.later(1, 1), 1);
        Check.noSuch("what 4", () -> x.later(61, 4));
        Check.noSuch("what -1", () -> x.later(0, -1));
        Check.illegal("61", () -> x.later(61, 0));
        Check.illegal("-1", () -> x.later(-1, 3));
    }

    private static void next() {
        NamedCoins x = Check.told(TWO);
        due("1 names", x.next(), 1);
        x.anew(1, 60);
        due("60 is more than half of 70, 10 goes to 1, who is poorer", x.next(), 1);
        x.give(0, 1);
        x.give(1, 1);
        due("0 names", x.next(), 0);
        due("a full mint", Check.told("person 0 0;" + "coin 1 0;".repeat(12)).next(), NONE);
        NamedCoins y = Check.told("person 0 0;person 0 0;coin 1 0;minting 9;");
        y.years(9);
        due("the first of the next ones", y.next(), 1);
    }

    private static void gets() {
        NamedCoins x = Check.told(ROUND);
        due("now", x.gets(0, 0), 0);
        due("1", x.gets(1, 0), 1);
        due("2", x.gets(2, 0), 2);
        NamedCoins y = Check.told(TWO);
        due("never", y.gets(1, 0), NONE);
        due("not minted", y.gets(1, 1), 1);
        Check.noSuch("coin 2", () -> y.gets(0, 2));
        Check.noSuch("coin -1", () -> y.gets(0, -1));
        Check.noSuch("person 2", () -> y.gets(2, 0));
        Check.noSuch("person -1", () -> y.gets(-1, 0));
        gets60();
    }

    /** The coin waits for a year that is told. */
    private static void gets60() {
        String start = "person 0 0 pays 1;person 0 0;coin 9 0;minting 9;spends year=";
        due("behind 60", Check.told(start + "59;").gets(1, 0), 60);
        due("behind 61", Check.told(start + "60;").gets(1, 0), NONE);
        NamedCoins x = Check.told(start + "20;");
        x.years(20);
        due("from now on", x.gets(1, 0), 1);
    }

    private static void hands() {
        NamedCoins x = Check.told(ROUND);
        due("now", x.hands(0, 0), 1);
        due("a year", x.hands(0, 1), 3);
        due("60", x.hands(0, 60), 7);
        NamedCoins y = Check.told(FALSE);
        y.years(2);
        due("crumbled", y.hands(1, 60), 0);
        due("crumbles within", y.hands(0, 60), 1);
        Check.noSuch("coin 1", () -> x.hands(1, 61));
        Check.noSuch("coin -1", () -> x.hands(-1, 0));
        Check.illegal("61", () -> x.hands(0, 61));
        Check.illegal("-1", () -> x.hands(0, -1));
    }

    private static void crumbles() {
        NamedCoins x = Check.told(FALSE);
        x.years(2);
        due("8 years", x.crumbles(0), 8);
        due("it is now", x.crumbles(1), NONE);
        x.search(0);
        due("false all the same", x.crumbles(0), 8);
        x.anew(0, 8);
        due("not false", x.crumbles(0), NONE);
        Check.noSuch("coin 2", () -> x.crumbles(2));
        Check.noSuch("coin -1", () -> x.crumbles(-1));
        NamedCoins y = Check.told("person 9 9;minting 9;names 69;");
        y.years(9);
        due("68", y.coin(0, 0), 68);
        due("not within 60", y.crumbles(0), NONE);
        y.years(8);
        due("within 60", y.crumbles(0), 60);
    }

    private static void comesTo() {
        NamedCoins x = Check.told("person 0 0 pays 1;person 0 0 pays 2;person 0 0 pays 1;person 0 0 pays 4;person 0 0;");
        due("to a ring", x.comesTo(0), 6);
        due("in a ring", x.comesTo(1), 6);
        due("to a sink", x.comesTo(3), 16);
        due("from a sink", x.comesTo(4), 0);
        Check.noSuch("person 5", () -> x.comesTo(5));
        Check.noSuch("person -1", () -> x.comesTo(-1));
        StringBuilder text = new StringBuilder();
        for (int person = 0; person < 8; person++) {
            text.append("person 0 0 pays ").append((person + 1) % 8).append(';');
        }
        NamedCoins y = Check.told(text.toString());
        due("a ring of eight", y.comesTo(3), 255);
        due("all in it", y.count(8), 255);
        due("one part", y.count(10), 1);
        due("no sink", y.count(9), 0);
        NamedCoins z = Check.told("person 0 0;person 0 0 pays 0;person 0 0;person 0 0 pays 4;person 0 0;");
        due("sinks", z.count(9), 17);
        due("parts", z.count(10), 3);
        due("no rings", z.count(8), 0);
        due("one alone", Check.told("person 0 0;").count(10), 1);
        due("seven steps", y.steps(3, 2), 7);
        y.pays(7, NONE);
        due("a row of eight", y.comesTo(0), 254);
        due("no ring", y.count(8), 0);
        due("a sink", y.count(9), 128);
    }

    private static void steps() {
        NamedCoins x = Check.told("person 0 0 pays 1;person 0 0 pays 2;person 0 0 pays 1;person 0 0;");
        due("to oneself", x.steps(3, 3), 0);
        due("to oneself in a ring", x.steps(1, 1), 0);
        due("1", x.steps(0, 1), 1);
        due("2", x.steps(0, 2), 2);
        due("none", x.steps(1, 0), NONE);
        due("none to 3", x.steps(0, 3), NONE);
        Check.noSuch("person 4", () -> x.steps(4, 0));
        Check.noSuch("other 4", () -> x.steps(0, 4));
        Check.noSuch("other -1", () -> x.steps(0, -1));
        Check.noSuch("person -1", () -> x.steps(-1, -1));
    }

    private static final String PURSE = "person 0 0;person 0 0;coin 5 0;coin 3 0;coin 2 0;coin 0 0;coin 8 1;coin 5 0;coin 1 0;";

    private static void toPay() {
        NamedCoins x = Check.told(PURSE);
        due("5 by one coin, the least", x.toPay(0, 5, 0), 1);
        due("5: three ways", x.toPay(0, 5, 1), 3);
        due("1 by 1", x.toPay(0, 1, 0), 64);
        due("8 by 5 and 3", x.toPay(0, 8, 0), 3);
        due("8: 5 3, 5 3, 5 2 1, 5 2 1", x.toPay(0, 8, 1), 4);
        due("all of them", x.toPay(0, 16, 0), 103);
        due("too much", x.toPay(0, 17, 0), NONE);
        due("no way", x.toPay(0, 17, 1), 0);
        due("most", x.toPay(0, 9999, 1), 0);
        due("the other one's", x.toPay(1, 8, 0), 16);
        Check.noSuch("person 2", () -> x.toPay(2, 0, 0));
        Check.noSuch("person -1", () -> x.toPay(-1, 5, 0));
        Check.noSuch("what 2", () -> x.toPay(0, 0, 2));
        Check.noSuch("what -1", () -> x.toPay(0, 5, -1));
        Check.illegal("0", () -> x.toPay(0, 0, 0));
        Check.illegal("10000", () -> x.toPay(0, 10000, 1));
        due("all twelve", Check.told("person 0 0;" + "coin 1 0;".repeat(12)).toPay(0, 6, 1), 924);
        due("of twelve the least", Check.told("person 0 0;" + "coin 1 0;".repeat(12)).toPay(0, 6, 0), 63);
        due("of as few the least bits", Check.told("person 0 0;coin 6 0;coin 4 0;coin 5 0;coin 5 0;").toPay(0, 10, 0), 3);
        due("5 and 5 are less bits than 6 and 4", Check.told("person 0 0;coin 5 0;coin 6 0;coin 5 0;coin 4 0;")
                .toPay(0, 10, 0), 5);
    }

    private static void change() {
        NamedCoins x = Check.told("person 0 0;person 0 0;person 0 0;coin 10 0;coin 3 0;coin 7 1;coin 0 1;coin 4 1;coin 6 2;");
        due("nothing for 0", x.change(0, 1, 0, 0), 0);
        due("nothing", x.change(0, 1, 0, 1), 0);
        due("3 just", x.change(0, 1, 3, 0), 1);
        due("3 by 3", x.change(0, 1, 3, 1), 2);
        due("6 = 10 - 4", x.change(0, 1, 6, 1), 17);
        due("2 = 13 - 7 - 4", x.change(0, 1, 2, 0), 4);
        due("which", x.change(0, 1, 2, 1), 23);
        due("1 = 4 - 3", x.change(1, 0, 1, 1), 18);
        due("none", x.change(0, 1, 5, 0), NONE);
        due("none which", x.change(0, 1, 5, 1), NONE);
        due("9999", x.change(0, 1, 9999, 1), NONE);
        Check.noSuch("person 3", () -> x.change(3, 1, -1, 0));
        Check.noSuch("other 3", () -> x.change(0, 3, 5, 0));
        Check.noSuch("what 2", () -> x.change(0, 0, 5, 2));
        Check.noSuch("what -1", () -> x.change(0, 1, 5, -1));
        Check.illegal("both are one", () -> x.change(1, 1, 5, 0));
        Check.illegal("-1", () -> x.change(0, 1, -1, 0));
        Check.illegal("10000", () -> x.change(0, 1, 10000, 0));
        due("of as few the least: 5 - 3 ahead of 4 - 2", Check.told(
                "person 0 0;person 0 0;coin 5 0;coin 3 1;coin 4 0;coin 2 1;").change(0, 1, 2, 1), 3);
    }

    private static void share() {
        NamedCoins x = Check.told("person 0 0;person 0 0;person 0 0;coin 10 0;coin 3 0;coin 7 1;coin 0 1;coin 4 1;coin 6 2;");
        due("24 in two: 13 and 11", x.share(0, 1, 0), 2);
        due("10 and 3", x.share(0, 1, 1), 3);
        due("10 3 6 : 10 and 9", x.share(0, 2, 0), 1);
        due("which", x.share(2, 0, 1), 1);
        NamedCoins y = Check.told("person 0 0;person 0 0;coin 0 0;coin 5 0;coin 5 1;");
        due("alike", y.share(0, 1, 0), 0);
        due("the least", y.share(0, 1, 1), 2);
        NamedCoins none = Check.told("person 0 0;person 0 0;coin 0 0;");
        due("no coins", none.share(0, 1, 0), 0);
        due("no set", none.share(0, 1, 1), 0);
        due("one coin", Check.told("person 0 0;person 0 0;coin 9 0;").share(0, 1, 0), 9);
        due("goes to the other one", Check.told("person 0 0;person 0 0;coin 9 0;").share(0, 1, 1), 0);
        Check.noSuch("both 3", () -> x.share(3, 3, 0));
        Check.noSuch("person 3", () -> x.share(3, 0, 0));
        Check.noSuch("person -1", () -> x.share(-1, 0, 0));
        Check.noSuch("other -1", () -> x.share(0, -1, 0));
        Check.noSuch("what 2", () -> x.share(0, 0, 2));
        Check.noSuch("what -1", () -> x.share(0, 1, -1));
        Check.illegal("both are one", () -> x.share(2, 2, 1));
    }

    private static void lacks() {
        NamedCoins x = Check.told(PURSE);
        due("more than one has", x.lacks(0), 17);
        due("1", x.lacks(1), 1);
        due("1 2 6: 4", Check.told("person 0 0;coin 6 0;coin 2 0;coin 1 0;").lacks(0), 4);
        due("no coins", Check.told("person 0 0;").lacks(0), 1);
        due("most", Check.told("person 0 0;coin 99 0;coin 99 0;coin 99 0;coin 99 0;coin 99 0;coin 64 0;coin 32 0;"
                + "coin 16 0;coin 8 0;coin 4 0;coin 2 0;coin 1 0;").lacks(0), 623);
        Check.noSuch("person 2", () -> x.lacks(2));
        Check.noSuch("person -1", () -> x.lacks(-1));
    }

    private static void toName() {
        NamedCoins x = Check.told("person 0 0;person 0 0;coin 50 0;coin 20 1;minting 9;");
        due("0: of like ones the least", x.toName(0, 0, 0), 0);
        due("1 is poorest, if 0 has more", x.toName(0, 1, 0), 21);
        due("1 is poorest, if it has less", x.toName(1, 1, 0), 0);
        due("0 is poorest, if 1 has as much", x.toName(1, 0, 0), 50);
        due("changes nothing", x.coin(0, 0), 50);
        Check.noSuch("coin 2", () -> x.toName(2, 0, 61));
        Check.noSuch("coin -1", () -> x.toName(-1, 0, 0));
        Check.noSuch("person 2", () -> x.toName(0, 2, 61));
        Check.noSuch("person -1", () -> x.toName(0, -1, 0));
        Check.illegal("61", () -> x.toName(0, 0, 61));
        Check.illegal("-1", () -> x.toName(0, 0, -1));
        NamedCoins rich = Check.told("person 0 0;person 0 0;coin 99 0;coin 1 0;coin 9 1;minting 9;");
        due("none", rich.toName(2, 0, 0), NONE);
        due("99", Check.told("person 0 0;person 0 0;coin 99 0;coin 5 1;").toName(1, 0, 0), 99);
        NamedCoins y = Check.told(FALSE);
        y.years(2);
        due("crumbled", y.toName(1, 0, 0), NONE);
        falseStays();
    }

    private static void falseStays() {
        NamedCoins x = Check.told("person 0 5;person 0 0;coin 10 1;minting 1;names 20;");
        x.years(1);
        x.search(0);
        due("19, false", x.coin(1, 0), 19);
        // from 11 on 1 names next and has 30; then 0 names: worth and 20, less two years that it wears
        due("false stays false: 31 is more than 30", x.toName(1, 1, 2), 13);
    }

    private static void see() {
        NamedCoins x = Check.told(TWO);
        due("-1", x.see(0, -1), NONE);
        due("21", x.see(0, 21), NONE);
        due("refused", x.count(16), 2);
        for (int i = 1; i <= 8; i++) {
            due("see " + i, x.see(1, i == 1 ? 20 : 0), i);
        }
        due("nine", x.see(1, 0), NONE);
        due("refused 3", x.count(16), 3);
        due("seen", x.count(12), 8);
        Check.noSuch("person 2", () -> x.see(2, 0));
        Check.noSuch("person -1", () -> x.see(-1, 99));
        due("no more refused", x.count(16), 3);
        due("no act", x.count(11), 0);
    }

    /** Person 0 (need 5) names ten times need in the first year; 1 has 40. */
    private static final String GUESS = "person 5 0;person 7 0;coin 40 1;minting 1;";

    private static void needy() {
        NamedCoins x = Check.told(GUESS);
        due("without sights all", x.needy(0), 18);
        due("first", x.needy(1), 0);
        due("so without", x.needy(2), 1);
        x.see(0, 1);
        due("need 5 gives 50, so 0 is not poorest", x.needy(2), 0);
        due("needs 0 to 4 give 40 at most", x.needy(0), 5);
        due("first again", x.needy(1), 0);
        x.forget();
        x.see(1, 1);
        due("it is so", x.needy(2), 1);
        due("6 to 9, and all needs of 1", x.needy(0), 13);
        due("0 with 6", x.needy(1), 6);
        x.see(0, 1);
        due("both can't be", x.needy(0), 0);
        due("no first", x.needy(1), NONE);
        due("not without", x.needy(2), 0);
        Check.noSuch("what 3", () -> x.needy(3));
        Check.noSuch("what -1", () -> x.needy(-1));
        NamedCoins y = Check.told(GUESS);
        y.see(1, 1);
        y.see(0, 2);
        // behind 1 year: 0 has 50, 1 has 40 and names 70 - 40 = 30: 70 behind 2 years
        due("0 is poorest behind 2", y.needy(2), 1);
        due("0 with 6, 7 (70 at most); 1 with 5, 6, 8, 9 (50 at least)", y.needy(0), 6);
        due("0 with 6", y.needy(1), 6);
        needyLater();
    }

    private static void needyLater() {
        NamedCoins x = Check.told("person 5 0;person 5 0;person 3 0;coin 40 0;coin 45 1;minting 1;");
        x.see(0, 1);
        due("2 with 4 to 9", x.needy(0), 6);
        due("the first of them", x.needy(1), 24);
        due("not without", x.needy(2), 0);
        x.see(0, 0);
        due("2 is poorest now", x.needy(0), 0);
    }

    private static void look() {
        NamedCoins x = Check.told(GUESS);
        // within 8 years the names go to and fro; the model test looks at more of it
        due("none differ by coin 0", x.then(0, 8, 0), 1);
        x.see(0, 1);
        x.see(1, 1);
        due("without any", x.look(0), NONE);
        due("none", x.look(1), 0);
        NamedCoins alike = Check.told("person 5 0;coin 40 0;minting 9;");
        due("held alike by all", alike.look(0), 0);
        due("one", alike.look(1), 1);
        due("nobody holds any", Check.told("person 5 0;minting 9;").look(1), 1);
        NamedCoins nobody = new NamedCoins();
        due("no people", nobody.look(0), NONE);
        Check.noSuch("what 2", () -> x.look(2));
        Check.noSuch("what -1", () -> x.look(-1));
        lookUnlike();
        lookCrumbled();
    }

    /** Who spends is who needs more than 5: 0 to 1 in the first year, if need is told so. */
    private static void lookUnlike() {
        NamedCoins x = Check.told("person 0 0 pays 1;person 0 0;coin 3 1;coin 9 0;minting 9;spends 5<need;");
        due("coin 1 is held by 0 or by 1", x.look(0), 1);
        due("two", x.look(1), 2);
        x.see(0, 0);
        x.see(1, 0);
        due("none any more", x.look(0), NONE);
        due("none of them", x.look(1), 0);
        String start = "person 0 0 pays 1;person 0 0;coin 9 0;minting 9;spends 5<need and year=";
        due("in the eighth year", Check.told(start + "7;").look(1), 2);
        due("in the ninth year", Check.told(start + "8;").look(1), 1);
    }

    /** Behind 8 years the false coin is crumbled or not, by need. */
    private static void lookCrumbled() {
        NamedCoins x = Check.told("person 9 1;minting 8;");
        due("coin 0 by 0 or by nobody", x.look(0), 0);
        due("two", x.look(1), 2);
        x.see(0, 0);
        due("still", x.look(1), 2);
    }

    private static void forget() {
        NamedCoins x = Check.told(GUESS);
        x.see(0, 1);
        x.forget();
        due("forgotten", x.count(12), 0);
        due("all again", x.needy(0), 18);
        due("first again", x.see(1, 0), 1);
    }

    private static void thieves() {
        NamedCoins x = Check.told("person 0 0;person 0 0;coin 9 0;coin 5 0;minting 9;");
        due("9 goes to 1: 0 has 5", x.thieves(0, 1, 3), 3);
        due("1 stays poorest", x.thieves(1, 1, 3), 7);
        due("two years: 0 poorest by just one theft", x.thieves(0, 2, 3), 42);
        due("1 by none or two", x.thieves(1, 2, 3), 58);
        due("sure", x.thieves(0, 1, 10), 10);
        due("never", x.thieves(0, 5, 0), 0);
        due("all", x.thieves(1, 5, 0), 100000);
        Check.noSuch("person 2", () -> x.thieves(2, 0, 0));
        Check.noSuch("person -1", () -> x.thieves(-1, 1, 1));
        Check.illegal("years 0", () -> x.thieves(0, 0, 5));
        Check.illegal("years 6", () -> x.thieves(0, 6, 5));
        Check.illegal("tenths -1", () -> x.thieves(0, 1, -1));
        Check.illegal("tenths 11", () -> x.thieves(0, 1, 11));
        due("nothing to steal", Check.told("person 0 0;person 0 0;").thieves(0, 1, 5), 10);
        thievesTakeGifts();
    }

    /** What the thieves bring to 1, 1 hands on to 2: a gift only if there are no others. */
    private static void thievesTakeGifts() {
        NamedCoins x = Check.told("person 0 0;person 0 0;coin 7 1;coin 7 0;minting 9;");
        due("of like ones the least: 0 gets coin 0", x.thieves(1, 1, 10), 10);
        NamedCoins y = Check.told("person 0 0 pays 1;person 0 0;coin 0 1;coin 0 1;coin 9 1;minting 9;spends 1;");
        due("9 goes to 0 and back", y.thieves(0, 1, 10), 10);
        // coin 0, a gift, comes to 0 and goes back to 1, false ones not being there: all stays 0 to 0
        NamedCoins z = Check.told("person 0 1;person 0 0;coin 0 1;minting 1;names 30;spends 1;");
        due("a gift changes no wealth", z.thieves(1, 1, 10), 10);
    }

    private static void game() {
        NamedCoins x = Check.told("person 0 0;person 0 0;coin 50 0;coin 20 0;coin 30 1;minting 9;");
        // gains (0, 0): 7+3, 3; (0, 1): 10+3, 0; (1, 0): 2, 8+3; (1, 1): 5 (50 each: 0 is poorest), 5+3
        due("one rests", x.game(0, 1, 0), 1);
        due("none gives", x.game(0, 1, 1), 0);
        NamedCoins y = Check.told("person 0 0;person 0 0;coin 5 0;coin 4 1;minting 9;");
        // gains (0, 0): 3, 0; (0, 1): 3, 0; (1, 0): 0, 3; (1, 1): 0, 3: 0 loses by giving, to 1 it is all one
        due("two rest", y.game(0, 1, 0), 2);
        due("the first", y.game(0, 1, 1), 0);
        due("from the other side", y.game(1, 0, 0), 2);
        NamedCoins none = Check.told("person 0 0;person 0 0;coin 0 0;coin 0 1;minting 9;");
        due("gifts aren't given", none.game(0, 1, 0), 1);
        due("0 alone", none.game(0, 1, 1), 0);
        Check.noSuch("both 2", () -> x.game(2, 2, 0));
        Check.noSuch("person 2", () -> x.game(2, 0, 0));
        Check.noSuch("person -1", () -> x.game(-1, 0, 0));
        Check.noSuch("other -1", () -> x.game(0, -1, 0));
        Check.noSuch("what 2", () -> x.game(0, 0, 2));
        Check.noSuch("what -1", () -> x.game(0, 1, -1));
        Check.illegal("both are one", () -> x.game(1, 1, 0));
        gameOfGiving();
    }

    /** Who holds the coin spends it for good if poor: it pays to have given it away. */
    private static void gameOfGiving() {
        NamedCoins x = Check.told("person 0 0 pays 2;person 0 0 pays 0;person 0 0;coin 50 0;coin 1 1;coin 9 2;"
                + "minting 9;spends worth=50 and year<2;");
        // kept by 0, 50 goes to 2; given to 1, it comes to 0 in the first year and goes to 2 in the second
        // either way; but if 1 gives the coin of worth 1, 1 is poorest and not 0
        due("two rest", x.game(0, 1, 0), 2);
        due("the first gives nothing", x.game(0, 1, 1), 0);
        NamedCoins y = Check.told("person 0 0 pays 2;person 0 0 pays 0;person 0 0;coin 50 0;coin 9 2;"
                + "minting 9;spends worth=50 and year<1;");
        due("giving gains", y.game(0, 1, 0), 1);
        due("10: the first gives, the other has 0 alone", y.game(0, 1, 1), 10);
        due("1: the other gives", y.game(1, 0, 1), 1);
        String start = "person 0 0 pays 2;person 0 0 pays 0;person 0 0;coin 50 0;coin 9 2;"
                + "minting 9;spends worth=50 and year=";
        due("in the sixth year", Check.told(start + "5;").game(0, 1, 1), 10);
        due("in the seventh year", Check.told(start + "6;").game(0, 1, 1), 0);
        gameOfTens();
    }

    /** 2 has least all the time: only tens count for the first one, who gains by nothing below ten. */
    private static void gameOfTens() {
        String people = "person 0 0;person 0 0;person 0 0;minting 9;";
        due("10 more is 1 more", Check.told(people + "coin 50 0;coin 10 0;coin 40 1;").game(0, 1, 0), 1);
        due("7 is all one", Check.told(people + "coin 3 0;coin 1 0;coin 3 1;coin 1 1;").game(0, 1, 0), 4);
        due("but 17 is 1 more than 9", Check.told(people + "coin 8 0;coin 1 0;coin 8 1;coin 1 1;").game(0, 1, 0), 3);
        // if 0 gives 30, 1 has 90 and so 2 hands 90 to 1, too: 0 has 5, but isn't poorest: 3 either way
        NamedCoins x = Check.told("person 0 0;person 0 0;person 0 0 pays 1;coin 30 0;coin 5 0;coin 60 1;coin 90 2;"
                + "minting 9;spends 80<theirs;");
        due("30 is as good as not to be poorest", x.game(0, 1, 0), 2);
        due("the first", x.game(0, 1, 1), 0);
        due("19 less is not", Check.told(people + "coin 19 0;coin 9 0;coin 9 1;").game(0, 1, 1), 0);
    }

    private static void ages() {
        NamedCoins x = Check.told(TWO);
        due("no years minted", x.ages(5, 0, 0), 0);
        due("no years crumbled", x.ages(5, 0, 1), 0);
        due("all have", x.ages(5, 0, 2), 15);
        due("minted in 60", x.ages(7, 60, 0), 10);
        Check.noSuch("what 3", () -> x.ages(5, 61, 3));
        Check.noSuch("what -1", () -> x.ages(5, 5, -1));
        Check.illegal("61", () -> x.ages(5, 61, 0));
        Check.illegal("-1", () -> x.ages(5, -1, 2));
        due("nothing has changed", x.count(2), 0);
        due("nobody", new NamedCoins().ages(1, 60, 2), 0);
        NamedCoins y = Check.told(FALSE);
        y.years(2);
        due("only what crumbles in them", y.ages(3, 0, 1), 0);
        stockingBySeed();
        givenBySeed();
        payeeBySeed();
    }

    private static int draw(int seed, int n) {
        return (seed >>> 16 & 32767) % n;
    }

    private static int behind(int seed) {
        return seed * 1103515245 + 12345;
    }

    /** If the coin is given to 1, 0 is poorest and names 90; else 1 names 50, false if 1 got a stocking. */
    private static void givenBySeed() {
        NamedCoins x = Check.told("person 9 0;person 5 0;coin 9 0;minting 1;");
        for (int seed = 0; seed < 300; seed++) {
            int first = behind(seed);
            int second = behind(first);
            int third = behind(second);
            boolean isGiven = draw(first, 6) == 0 && draw(third, 2) == 1;
            boolean isFalse = draw(first, 6) == 1 && draw(second, 2) == 1 && draw(third, 5) != 0;
            due("seed " + seed, x.ages(seed, 1, 2), isGiven ? 99 : isFalse ? 58 : 59);
        }
    }

    /** If 1 pays 0 from the first year on, 1 is poorest in the second and names 50; else 0 names a gift. */
    private static void payeeBySeed() {
        NamedCoins x = Check.told("person 0 0;person 5 0;coin 30 1;minting 2;names 10*need;spends 1;");
        for (int seed = 0; seed < 300; seed++) {
            int first = behind(seed);
            int second = behind(first);
            int third = behind(second);
            if (draw(first, 6) < 2) {
                continue;
            }
            boolean isPaid = draw(first, 6) == 2 && draw(second, 2) == 1 && draw(third, 2) == 0;
            int fourth = behind(draw(first, 6) == 2 ? third : first);
            if (draw(fourth, 6) > 2) {
                due("paid by seed " + seed, x.ages(seed, 2, 2), isPaid ? 80 : 30);
            }
        }
    }

    /** A seed whose first draw of 6 is 1 puts a stocking, and the coin named then is false and wears. */
    private static void stockingBySeed() {
        NamedCoins x = Check.told("person 5 0;minting 1;");
        for (int seed = 0; seed < 200; seed++) {
            int first = seed * 1103515245 + 12345;
            int second = first * 1103515245 + 12345;
            int third = second * 1103515245 + 12345;
            boolean isStocking = (first >>> 16 & 32767) % 6 == 1;
            boolean isFalse = isStocking && (third >>> 16 & 32767) % 5 != 0;
            due("seed " + seed, x.ages(seed, 1, 2), isFalse ? 49 : 50);
        }
        NamedCoins y = Check.told("person 0 0;minting 1;");
        for (int seed = 0; seed < 200; seed++) {
            int first = seed * 1103515245 + 12345;
            int third = (first * 1103515245 + 12345) * 1103515245 + 12345;
            boolean isFalse = (first >>> 16 & 32767) % 6 == 1 && (third >>> 16 & 32767) % 5 != 0;
            due("crumbled by seed " + seed, y.ages(seed, 1, 1), isFalse ? 1 : 0);
        }
    }

    private static void image() {
        NamedCoins x = Check.told(TWO);
        x.years(1);
        x.image();
        x.years(1);
        x.image();
        x.years(1);
        Check.due("restored", x.restore(), true);
        due("the later one", x.count(2), 2);
        due("its acts", x.count(11), 2);
    }

    private static void restore() {
        NamedCoins x = Check.told("person 1 3 pays 1;person 2 4;coin 9 0;minting 1;");
        Check.due("none", x.restore(), false);
        x.years(1);
        x.see(0, 7);
        x.years(0);
        x.see(0, 70);
        x.image();
        x.years(5);
        x.search(0);
        x.pays(0, NONE);
        x.anew(0, 77);
        x.give(0, 0);
        x.see(1, 8);
        x.forget();
        x.see(1, 9);
        x.years(0);
        x.see(0, 70);
        Check.tell(x, "x");
        x.feed(1, 2, 3, 4, 5);
        Check.due("restored", x.restore(), true);
        due("year", x.count(2), 1);
        due("stocking", x.person(0, 1), 3);
        due("payee", x.person(0, 2), 1);
        due("worth", x.coin(0, 0), 9);
        due("coins", x.count(1), 2);
        due("acts", x.count(11), 1);
        due("seen", x.count(12), 1);
        due("texts", x.count(14), 0);
        due("refused", x.count(15), 1);
        due("unseen", x.count(16), 1);
        due("the tape is as it was", x.count(13), 20);
        due("the fault, too", x.fault(), 0);
        due("the sight itself", x.needy(2), x.later(7, 0) == 0 ? 1 : 0);
        due("undone", x.undo(), 0);
        due("to the start", x.count(2), 0);
        x.give(0, 1);
        x.forget();
        Check.due("again", x.restore(), true);
        due("year again", x.count(2), 1);
        due("seen again", x.count(12), 1);
        due("the image's own act is undone", x.undo(), 0);
        due("not the later one", x.coin(0, 1), 0);
        sightsComeBack();
    }

    private static void sightsComeBack() {
        NamedCoins x = Check.told(GUESS);
        x.see(1, 1);
        x.image();
        x.forget();
        x.see(0, 2);
        x.see(0, 20);
        due("restored", x.restore() ? 1 : 0, 1);
        due("one is seen", x.count(12), 1);
        due("what was seen", x.needy(0), 13);
    }
}
