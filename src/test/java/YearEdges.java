/** Edges of what a year does (promise 8). */
final class YearEdges extends Edges {
    @Says("NONE (STATUS 1): not 1 to 20")
    static void promise08_not1To20() {
        NamedCoins x = told(PAIR);
        refused(x, 1, "0", () -> x.years(0), NONE);
        refused(x, 1, "-1", () -> x.years(-1), NONE);
        refused(x, 1, "21", () -> x.years(21), NONE);
        refused(x, 1, "the least", () -> x.years(LEAST), NONE);
        refused(x, 1, "the most", () -> x.years(MOST), NONE);
    }

    @Says("YEARS go by (1 to 20)")
    static void promise08_oneYearAndTwenty() {
        NamedCoins x = told(PAIR);
        due("1", x.years(1), 1);
        due("20", x.years(20), 21);
        due("two acts", x.count(11), 2);
        due("none refused", x.count(15), 0);
    }

    @Says("NONE (STATUS 1): not 1 to 20, it would be above 999.")
    static void promise08_above999() {
        NamedCoins x = after(980, PAIR);
        due("year", x.count(2), 980);
        refused(x, 1, "to 1000", () -> x.years(20), NONE);
        due("to 999", x.years(19), 999);
        refused(x, 1, "one more", () -> x.years(1), NONE);
        refused(x, 1, "twenty more", () -> x.years(20), NONE);
        due("undone", x.undo() >= 0 ? x.count(2) : NONE, 980);
    }

    @Says("(If only YEARS go by, from now on:) THEN, behind so many YEARS (0 to 60)")
    static void promise08_whatIsForeseenDoesntEndAt999() {
        NamedCoins x = after(999, "person 0 0 pays 1;person 0 0 pays 0;coin 0 0;minting 9;");
        due("now", x.coin(0, 1), 1);
        due("behind 60", x.then(0, 60, 0), 1);
        due("behind 59", x.then(0, 59, 0), 0);
        due("coins went", x.later(60, 3) >= 60, true);
    }

    @Says("if the YEAR MOD MINTING is MINTING less 1")
    static void promise08_aMintingEachYear() {
        NamedCoins x = told("person 1 0;minting 1;");
        for (int year = 1; year <= 12; year++) {
            x.years(1);
            due("coins behind year " + year, x.count(1), year);
        }
    }

    @Says("if the YEAR MOD MINTING is MINTING less 1")
    static void promise08_aMintingEveryNinthYear() {
        NamedCoins x = told("person 1 0;minting 9;");
        x.years(8);
        due("behind 8", x.count(1), 0);
        x.years(1);
        due("behind 9", x.count(1), 1);
        x.years(8);
        due("behind 17", x.count(1), 1);
        x.years(1);
        due("behind 18", x.count(1), 2);
    }

    @Says("A MINTING every so many YEARS (1 to 9; 4 without)")
    static void promise08_aMintingEveryFourthYearWithout() {
        NamedCoins x = told("person 1 0;");
        due("behind 3", x.later(3, 2), 0);
        due("behind 4", x.later(4, 2), 1);
        due("behind 7", x.later(7, 2), 1);
        due("behind 8", x.later(8, 2), 2);
    }

    @Says("there are PEOPLE, and COINS are fewer than 12")
    static void promise08_nobodyNames() {
        NamedCoins x = after(3, "minting 1;names 9;");
        due("year", x.count(2), 3);
        due("coins", x.count(1), 0);
    }

    @Says("COINS are fewer than 12 (CRUMBLED ones are COINS, too)")
    static void promise08_theTwelfthCoinIsTheLast() {
        NamedCoins x = told("person 0 0;" + "coin 1 0;".repeat(11) + "minting 1;names 7;");
        x.years(1);
        due("the twelfth", x.coin(11, 0), 7);
        x.years(1);
        due("no thirteenth", x.count(1), 12);
        due("twelve told, none named", after(4, TWELVE).count(1), 12);
    }

    @Says("COINS are fewer than 12 (CRUMBLED ones are COINS, too)")
    static void promise08_crumbledOnesAreAmongTheTwelve() {
        NamedCoins x = after(20, "person 0 1;minting 1;names 1;");
        due("coins", x.count(1), 12);
        due("all crumbled", x.count(6), 4095);
        due("none named any more", x.next(), NONE);
    }

    @Says("WORTH is what NAMES gives, kept to 0 to 99")
    static void promise08_aWorthIsKeptTo99() {
        due("98", named("98"), 98);
        due("99", named("99"), 99);
        due("100", named("100"), 99);
        due("9999 * 9999", named("9999*9999"), 99);
    }

    @Says("WORTH is what NAMES gives, kept to 0 to 99")
    static void promise08_aWorthIsKeptTo0() {
        due("1", named("1"), 1);
        due("0", named("0"), 0);
        due("-1", named("0-1"), 0);
        due("-9999 * 9999", named("0-9999*9999"), 0);
        due("a gift, not crumbled", after(1, "person 0 0;minting 1;names 0-1;").count(7), 1);
    }

    @Says("(without it ten times NEED, less what one HAS)")
    static void promise08_withoutNamesAlsoKeptTo0() {
        due("90", after(1, "person 9 0;minting 1;").coin(0, 0), 90);
        due("0 less 0", after(1, "person 0 0;minting 1;").coin(0, 0), 0);
        due("10 less 9", after(1, "person 1 0;coin 9 0;minting 1;").coin(1, 0), 1);
        due("10 less 10", after(1, "person 1 0;coin 10 0;minting 1;").coin(1, 0), 0);
        due("10 less 11", after(1, "person 1 0;coin 11 0;minting 1;").coin(1, 0), 0);
        due("a beggar has all: 20 less 9", after(1, "beggar 2 0;coin 9 0;minting 1;").coin(1, 0), 11);
    }

    @Says("ints that wrap")
    static void promise08_intsWrap() {
        due("2 to the power of 31, by 9999 twice, from 99", named("99+4096*4096*128/9999/9999"), 78);
        due("by adding", named("99+(4096*4096*127+4096*4096)/9999/9999"), 78);
        due("by taking away", named("(4096*4096*128-1)/9999/9999"), 21);
        due("the least by -1 is itself", named("99+4096*4096*128/(0-1)/9999/9999"), 78);
        due("2 to the power of 32 is nothing", named("5+4096*4096*256"), 5);
    }

    @Says("/ cut down to 0, by 0 gives 0")
    static void promise08_aDivisionIsCutDownTo0() {
        due("7 by 2", named("7/2"), 3);
        due("-7 by 2", named("50+(0-7)/2"), 47);
        due("7 by -2", named("50+7/(0-2)"), 47);
        due("-7 by -2", named("50+(0-7)/(0-2)"), 53);
        due("1 by 2", named("50+(0-1)/2"), 50);
    }

    @Says("/ cut down to 0, by 0 gives 0")
    static void promise08_aDivisionBy0Gives0() {
        due("5 by 0", named("4+5/0"), 4);
        due("0 by 0", named("4+0/0"), 4);
        due("-5 by a value of 0", named("4+(0-5)/has"), 4);
        due("by 0 and on", named("4+5/0*7"), 4);
    }

    @Says("tests, not, and, or are 1 or 0 (what isn't 0 holds)")
    static void promise08_whatIsnt0Holds() {
        due("not 0", named("40+(not 0)"), 41);
        due("not 2", named("40+(not 2)"), 40);
        due("not -1", named("40+(not 0-1)"), 40);
        due("2 and 4", named("40+(2 and 4)"), 41);
        due("-1 and 1", named("40+(0-1 and 1)"), 41);
        due("2 and 0", named("40+(2 and 0)"), 40);
        due("0 or -7", named("40+(0 or 0-7)"), 41);
        due("0 or 0", named("40+(0 or 0)"), 40);
    }

    @Says("tests, not, and, or are 1 or 0 (what isn't 0 holds)")
    static void promise08_testsOfLikeOnes() {
        due("3 < 3", named("40+(3<3)"), 40);
        due("2 < 3", named("40+(2<3)"), 41);
        due("-1 < 0", named("40+(0-1<0)"), 41);
        due("3 = 3", named("40+(3=3)"), 41);
        due("3 = -3", named("40+(3=0-3)"), 40);
        due("the least is less than the most", named("40+(4096*4096*128<4096*4096*128-1)"), 41);
    }

    @Says("'coins' (how many COINS there are in all, that aren't CRUMBLED)")
    static void promise08_crumbledOnesAreNotAmongCoins() {
        NamedCoins x = after(2, "person 0 1;coin 7 0;minting 1;names coins;");
        due("1, crumbled", x.coin(1, 3), 1);
        due("1 again, crumbled", x.coin(2, 3), 1);
        due("none is named 0 of none", after(1, "person 0 0;minting 1;names coins;").coin(0, 0), 0);
        due("all twelve at a coin's turn", after(1, "person 0 0 pays 1;person 0 0;" + "coin 1 0;".repeat(12)
                + "spends coins=12;").person(1, 4), 4095);
    }

    @Says("it is FALSE, if one's STOCKING isn't 0")
    static void promise08_falseByAStockingOf1() {
        NamedCoins no = after(1, "person 0 0;minting 1;names 9;");
        due("0: not false", no.coin(0, 2), 0);
        due("whole", no.coin(0, 0), 9);
        NamedCoins yes = after(1, "person 0 1;minting 1;names 9;");
        due("1: false", yes.coin(0, 2), 1);
        due("1 less at once", yes.coin(0, 0), 8);
    }

    @Says("Then each FALSE one (one named now, one that is a GIFT, too) has 1 less WORTH (not below 0)")
    static void promise08_aFalseOneOf1CrumblesAtOnce() {
        NamedCoins x = after(1, "person 0 1;minting 1;names 1;");
        due("crumbled", x.coin(0, 3), 1);
        due("holder", x.coin(0, 1), NONE);
        due("false no more", x.count(5), 0);
        NamedCoins two = after(1, "person 0 1;minting 1;names 2;");
        due("2: not yet", two.coin(0, 3), 0);
        due("worth", two.coin(0, 0), 1);
        two.years(1);
        due("then", two.coin(0, 3), 1);
    }

    @Says("Then each FALSE one (one named now, one that is a GIFT, too) has 1 less WORTH (not below 0)")
    static void promise08_aFalseGiftCrumblesToo() {
        NamedCoins x = told("person 0 1 pays 1;person 0 0;coin 9 1;minting 1;names 0;");
        due("it is handed on ahead", x.later(1, 3), 1);
        x.years(1);
        due("crumbled", x.coin(1, 3), 1);
        due("worth", x.coin(1, 0), 0);
        due("no gift", x.count(7), 0);
        due("nobody holds it", x.coin(1, 1), NONE);
    }

    @Says("is it 0 then, it is CRUMBLED (no GIFT, not FALSE any more; nobody holds it)")
    static void promise08_aCoinThatIsNotFalseDoesntWear() {
        NamedCoins x = after(60, "person 0 1;coin 1 0;coin 0 0;minting 9;names 0;");
        due("1 stays", x.coin(0, 0), 1);
        due("a gift stays", x.coin(1, 3), 0);
        due("those named are crumbled", x.count(6), 252);
    }

    @Says("a GIFT goes to whom its HOLDER PAYS, if somebody")
    static void promise08_aGiftGoesWhateverSpendsSays() {
        due("SPENDS 0", after(1, "person 0 0 pays 1;person 0 0;coin 0 0;minting 9;spends 0;").coin(0, 1), 1);
        due("pays nobody", after(1, "person 0 0;person 0 0;coin 0 0;minting 9;spends 1;").coin(0, 1), 0);
        due("once a year", after(1, "person 0 0 pays 1;person 0 0 pays 2;person 0 0;coin 0 0;").coin(0, 1), 1);
    }

    @Says("SPENDS, by what is so at its turn, gives more than 0")
    static void promise08_spendsGivesMoreThan0() {
        String start = "person 0 0 pays 1;person 0 0;coin 5 0;minting 9;spends ";
        due("-1", after(1, start + "0-1;").coin(0, 1), 0);
        due("0", after(1, start + "0;").coin(0, 1), 0);
        due("1", after(1, start + "1;").coin(0, 1), 1);
        due("9999", after(1, start + "9999;").coin(0, 1), 1);
        due("the least int", after(1, start + "4096*4096*128;").coin(0, 1), 0);
        due("pays nobody", after(1, "person 0 0;coin 5 0;minting 9;spends 1;").coin(0, 1), 0);
    }

    @Says("SPENDS, by what is so at its turn, gives more than 0")
    static void promise08_byWhatIsSoAtItsTurn() {
        NamedCoins x = after(1, "person 0 0 pays 1;person 0 0;coin 5 0;coin 5 0;coin 5 0;minting 9;spends theirs<6;");
        due("theirs is 0, 5, 10", x.person(1, 4), 3);
        NamedCoins y = after(1, "person 0 0 pays 1;person 0 0;coin 5 0;coin 5 0;coin 5 0;minting 9;spends 9<has;");
        due("has is 15, 10, 5", y.person(1, 4), 3);
    }

    @Says("(without it: if WORTH is no more than half of what one HAS then, cut down)")
    static void promise08_halfOfWhatOneHasCutDown() {
        String start = "person 0 0 pays 1;person 0 0;minting 9;";
        due("5 of 10", after(1, start + "coin 5 0;coin 5 0;").coin(0, 1), 1);
        due("6 of 11: half is 5", after(1, start + "coin 6 0;coin 5 0;").coin(0, 1), 0);
        due("5 of 11", after(1, start + "coin 5 0;coin 6 0;").coin(0, 1), 1);
        due("5 of 9: half is 4", after(1, start + "coin 5 0;coin 4 0;").coin(0, 1), 0);
        due("1 of 1", after(1, start + "coin 1 0;").coin(0, 1), 0);
        due("then: 5 of 5", after(1, start + "coin 5 0;coin 5 0;").coin(1, 1), 0);
    }

    @Says("the POOREST names a new COIN (the next number), and holds it")
    static void promise08_ofLikeOnesTheLeastNames() {
        NamedCoins x = after(1, "person 1 0;person 2 0;minting 1;");
        due("holder", x.coin(0, 1), 0);
        due("need 1", x.coin(0, 0), 10);
        x.years(1);
        due("then the other one", x.coin(1, 1), 1);
        due("a beggar by half", after(1, "person 0 0;beggar 0 0;coin 5 0;coin 9 1;minting 1;").coin(2, 1), 1);
    }

    @Says("Then COIN by COIN (not CRUMBLED)")
    static void promise08_aCoinNamedNowGoesToo() {
        NamedCoins x = after(1, "person 0 0 pays 1;person 0 0;coin 1 1;minting 1;names 7;spends 1;");
        due("named by 0, held by 1", x.coin(1, 1), 1);
        NamedCoins y = after(2, "person 0 1 pays 1;person 0 0;coin 9 1;minting 1;names 1;spends 1;");
        due("crumbled ones don't go", y.later(1, 3), 1);
    }

    @Says("The YEAR is one more then.")
    static void promise08_theFirstYearIs0() {
        due("in the first year", after(1, "person 0 0 pays 1;person 0 0;coin 9 0;minting 9;spends year=0;").coin(0, 1), 1);
        due("named in the first year", after(1, "person 0 0;minting 1;names 40+year;").coin(0, 0), 40);
        due("named in the ninth year", after(9, "person 0 0;minting 9;names 40+year;").coin(0, 0), 48);
    }
}
