/** What the tests of edges share. Each test is a static method promiseNN_itsCase that bears the words it holds to. */
abstract class Edges {
    static final int NONE = -1;
    static final int LEAST = Integer.MIN_VALUE;
    static final int MOST = Integer.MAX_VALUE;

    /** Two who pay each other nothing, and a coin of each; no minting ahead of the ninth year. */
    static final String PAIR = "person 3 0;person 5 0;coin 40 0;coin 9 1;minting 9;";
    /** 0 pays 1, who pays nobody; the coin goes in the YEAR that is put behind. */
    static final String GOES_IN_YEAR = "person 0 0 pays 1;person 0 0;coin 9 0;minting 9;spends year=";
    /** One who names 10, false; then 1, which crumbles at once; then 2, .. : 10 less what one has. */
    static final String FALSE_NAMES = "person 1 3;minting 1;";
    /** Twelve coins of 1, all held by 0. */
    static final String TWELVE = "person 0 0;person 0 0;" + "coin 1 0;".repeat(12);

    static void due(String what, long got, long want) {
        Check.due(what, got, want);
    }

    static void due(String what, boolean got, boolean want) {
        Check.due(what, got, want);
    }

    static NamedCoins told(String text) {
        return Check.told(text);
    }

    /** The coin 0, false, of 8, held by 0; the coin 1 crumbled; YEAR 2. */
    static NamedCoins withCrumbled() {
        NamedCoins x = told(FALSE_NAMES);
        x.years(2);
        return x;
    }

    static NamedCoins after(int years, String text) {
        NamedCoins x = told(text);
        for (int left = years; left > 0; left -= 20) {
            x.years(Math.min(20, left));
        }
        return x;
    }

    /** Throws it, and neither what can be asked nor STATUS is another one behind it. */
    static void noSuch(NamedCoins x, String what, Check.Call call) {
        String before = portrait(x) + status(x);
        Check.noSuch(what, call);
        Check.same("what can be asked behind " + what, portrait(x) + status(x), before);
    }

    static void illegal(NamedCoins x, String what, Check.Call call) {
        String before = portrait(x) + status(x);
        Check.illegal(what, call);
        Check.same("what can be asked behind " + what, portrait(x) + status(x), before);
    }

    /** Answers so, and nothing is another one behind it but that this STATUS is one more. */
    static void refused(NamedCoins x, int status, String what, Check.Call call, int answer) {
        String before = portrait(x);
        int[] counts = {x.count(14), x.count(15), x.count(16)};
        counts[status]++;
        due(what, call.run(), answer);
        Check.same("what can be asked behind " + what, portrait(x), before);
        Check.same("STATUS behind " + what, status(x), counts[0] + " " + counts[1] + " " + counts[2]);
    }

    static String status(NamedCoins x) {
        return x.count(14) + " " + x.count(15) + " " + x.count(16);
    }

    /** What can be asked without changing anything, but STATUS. */
    static String portrait(NamedCoins x) {
        StringBuilder text = new StringBuilder("fault ").append(x.fault()).append(", counts");
        for (int what = 0; what <= 13; what++) {
            text.append(' ').append(x.count(what));
        }
        for (int person = 0; person < x.count(0); person++) {
            text.append(", person");
            for (int what = 0; what <= 6; what++) {
                text.append(' ').append(x.person(person, what));
            }
        }
        for (int coin = 0; coin < x.count(1); coin++) {
            text.append(", coin");
            for (int what = 0; what <= 3; what++) {
                text.append(' ').append(x.coin(coin, what));
            }
        }
        text.append(", needy ").append(x.needy(0)).append(' ').append(x.needy(1)).append(", later");
        for (int what = 0; what <= 3; what++) {
            text.append(' ').append(x.later(60, what));
        }
        return text.append("; ").toString();
    }

    /** Behind this text there is the fault, at the place; nothing of the text is kept. */
    static void fault(String text, int number, int place) {
        NamedCoins x = new NamedCoins();
        due("mint of '" + text + "'", Check.tell(x, text), number);
        due("place in '" + text + "'", x.fault(), place);
        due("people of '" + text + "'", x.count(0), 0);
        due("refused texts behind '" + text + "'", x.count(14), 1);
    }

    static void fine(String text) {
        NamedCoins x = new NamedCoins();
        due("mint of '" + text + "'", Check.tell(x, text), 0);
        due("place in '" + text + "'", x.fault(), NONE);
        due("refused texts behind '" + text + "'", x.count(14), 0);
    }

    /** What a rule names, who names having nothing and a need of 3. */
    static int named(String rule) {
        return after(1, "person 3 0;minting 1;names " + rule + ";").coin(0, 0);
    }
}
