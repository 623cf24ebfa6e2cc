/** Edges of paying, changing and sharing (promises 23 to 26). */
final class SumEdges extends Edges {
    /** 0 holds 5, 3 and a gift, 1 holds 4 and a gift, 2 holds a gift alone, 3 nothing. */
    private static final String PURSES = "person 0 0;person 0 0;person 0 0;person 0 0;coin 5 0;coin 0 0;coin 4 1;coin 0 1;"
            + "coin 3 0;coin 0 2;";

    @Says("IllegalArgumentException (behind that): not 1 to 9999.")
    static void promise23_not1To9999() {
        NamedCoins x = told(PURSES);
        illegal(x, "0", () -> x.toPay(0, 0, 0));
        illegal(x, "0 ways", () -> x.toPay(0, 0, 1));
        illegal(x, "-1", () -> x.toPay(0, -1, 0));
        illegal(x, "10000", () -> x.toPay(0, 10000, 1));
        illegal(x, "the least", () -> x.toPay(0, LEAST, 0));
        illegal(x, "the most", () -> x.toPay(0, MOST, 0));
    }

    @Says("TO PAY a sum (1 to 9999) from one's COINS (no GIFTS) just")
    static void promise23_sumsOf1And9999() {
        NamedCoins x = told("person 0 0;coin 1 0;");
        due("1", x.toPay(0, 1, 0), 1);
        due("ways of 1", x.toPay(0, 1, 1), 1);
        due("9999", x.toPay(0, 9999, 0), NONE);
        due("ways of 9999", x.toPay(0, 9999, 1), 0);
    }

    @Says("NoSuchElementException: also another what. IllegalArgumentException (behind that)")
    static void promise23_noSuchElementAhead() {
        NamedCoins x = told(PURSES);
        noSuch(x, "what 2", () -> x.toPay(0, 5, 2));
        noSuch(x, "what -1", () -> x.toPay(0, 5, -1));
        noSuch(x, "what 2 of 0", () -> x.toPay(0, 0, 2));
        noSuch(x, "person 4", () -> x.toPay(4, 5, 0));
        noSuch(x, "person -1", () -> x.toPay(-1, 5, 0));
        noSuch(x, "person 4 of 10000", () -> x.toPay(4, 10000, 0));
        noSuch(x, "the most", () -> x.toPay(MOST, MOST, MOST));
    }

    @Says("the fewest COINS: as bits (of as few the least); none.")
    static void promise23_fewestAndOfAsFewTheLeast() {
        due("3 is one coin, not 1 and 2", told("person 0 0;coin 1 0;coin 2 0;coin 3 0;").toPay(0, 3, 0), 4);
        due("6 and 4 ahead", told("person 0 0;coin 6 0;coin 4 0;coin 5 0;coin 5 0;").toPay(0, 10, 0), 3);
        due("5 and 5 ahead", told("person 0 0;coin 5 0;coin 6 0;coin 5 0;coin 4 0;").toPay(0, 10, 0), 5);
        due("the first of like coins", told("person 0 0;coin 7 0;coin 7 0;").toPay(0, 7, 0), 1);
    }

    @Says("the fewest COINS: as bits (of as few the least); none.")
    static void promise23_none() {
        NamedCoins x = told(PURSES);
        due("between", x.toPay(0, 4, 0), NONE);
        due("one more than one has", x.toPay(0, 9, 0), NONE);
        due("what another one holds", x.toPay(0, 7, 0), NONE);
        due("gifts alone", x.toPay(2, 1, 0), NONE);
        due("nothing", x.toPay(3, 1, 0), NONE);
        due("another one's is no change", told("person 0 0;person 0 0;coin 3 0;coin 8 1;").toPay(1, 5, 0), NONE);
    }

    @Says("WAYS: how many sets of them do (0: none).")
    static void promise23_noWays() {
        NamedCoins x = told(PURSES);
        due("between", x.toPay(0, 4, 1), 0);
        due("gifts alone", x.toPay(2, 1, 1), 0);
        due("nothing", x.toPay(3, 1, 1), 0);
    }

    @Says("WAYS: how many sets of them do (0: none).")
    static void promise23_waysAreOfOnesOwnWhateverWasAskedAhead() {
        NamedCoins x = told(PURSES);
        due("4 of 1", x.toPay(1, 4, 1), 1);
        due("5 of 0", x.toPay(0, 5, 1), 1);
        due("4 of 0", x.toPay(0, 4, 1), 0);
        x.share(0, 1, 0);
        due("5 of 1", x.toPay(1, 5, 1), 0);
        x.change(0, 1, 1, 0);
        due("9 of 0", x.toPay(0, 9, 1), 0);
        due("8 of 0", x.toPay(0, 8, 1), 1);
    }

    @Says("from one's COINS (no GIFTS)")
    static void promise23_giftsArePaidNowhere() {
        NamedCoins x = told(PURSES);
        due("all", x.toPay(0, 8, 0), 17);
        due("one way: a gift makes no other one", x.toPay(0, 8, 1), 1);
    }

    @Says("the fewest COINS: as bits (of as few the least); none.")
    static void promise23_allTwelveCoins() {
        NamedCoins x = told(TWELVE);
        due("12", x.toPay(0, 12, 0), 4095);
        due("ways of 12", x.toPay(0, 12, 1), 1);
        due("13", x.toPay(0, 13, 0), NONE);
        due("ways of 6", x.toPay(0, 6, 1), 924);
        due("6", x.toPay(0, 6, 0), 63);
        due("ways of 1", x.toPay(0, 1, 1), 12);
        NamedCoins most = told("person 0 0;" + "coin 99 0;".repeat(12));
        due("1188", most.toPay(0, 1188, 0), 4095);
        due("1187", most.toPay(0, 1187, 0), NONE);
    }

    @Says("(that aren't CRUMBLED)")
    static void promise23_crumbledOnesPayNothing() {
        NamedCoins x = withCrumbled();
        due("8, false", x.toPay(0, 8, 0), 1);
        due("one way", x.toPay(0, 8, 1), 1);
    }

    @Says("IllegalArgumentException (behind that): both are one, not 0 to 9999.")
    static void promise24_not0To9999() {
        NamedCoins x = told(PURSES);
        illegal(x, "-1", () -> x.change(0, 1, -1, 0));
        illegal(x, "10000", () -> x.change(0, 1, 10000, 1));
        illegal(x, "the least", () -> x.change(0, 1, LEAST, 0));
        illegal(x, "the most", () -> x.change(0, 1, MOST, 0));
        due("9999", x.change(0, 1, 9999, 0), NONE);
    }

    @Says("IllegalArgumentException (behind that): both are one, not 0 to 9999.")
    static void promise24_bothAreOne() {
        NamedCoins x = told(PURSES);
        illegal(x, "0 and 0", () -> x.change(0, 0, 5, 0));
        illegal(x, "3 and 3, nothing", () -> x.change(3, 3, 0, 1));
    }

    @Says("NoSuchElementException: also another what. IllegalArgumentException (behind that)")
    static void promise24_noSuchElementAhead() {
        NamedCoins x = told(PURSES);
        noSuch(x, "what 2", () -> x.change(0, 1, 5, 2));
        noSuch(x, "what -1", () -> x.change(0, 1, 5, -1));
        noSuch(x, "person 4", () -> x.change(4, 1, 5, 0));
        noSuch(x, "person -1", () -> x.change(-1, 1, 5, 0));
        noSuch(x, "other 4", () -> x.change(0, 4, 5, 0));
        noSuch(x, "other -1", () -> x.change(0, -1, 5, 0));
        noSuch(x, "what 2 of one", () -> x.change(0, 0, 5, 2));
        noSuch(x, "what 2 of -1", () -> x.change(0, 1, -1, 2));
        noSuch(x, "both 4", () -> x.change(4, 4, -1, 0));
    }

    @Says("how many (0 for a sum of 0); which (bits: of as few the least)")
    static void promise24_aSumOf0() {
        NamedCoins x = told("person 0 0;person 0 0;coin 5 0;coin 5 1;coin 0 0;");
        due("how many", x.change(0, 1, 0, 0), 0);
        due("which", x.change(0, 1, 0, 1), 0);
        due("without coins", told("person 0 0;person 0 0;").change(1, 0, 0, 0), 0);
        due("none of them", told("person 0 0;person 0 0;").change(1, 0, 0, 1), 0);
    }

    @Says("some COINS of one's own (no GIFTS), or none, against some of the other one's, or none")
    static void promise24_withAndWithoutChange() {
        NamedCoins x = told(PURSES);
        due("5, no change", x.change(0, 1, 5, 1), 1);
        due("1 = 5 - 4", x.change(0, 1, 1, 1), 5);
        due("how many", x.change(0, 1, 1, 0), 2);
        due("4 = 5 + 3 - 4", x.change(0, 1, 4, 1), 21);
        due("how many", x.change(0, 1, 4, 0), 3);
        due("1 = 4 - 3 from the other side", x.change(1, 0, 1, 1), 20);
    }

    @Says("CHANGE: how many (what 0; NONE: none), which (1; bits; NONE).")
    static void promise24_none() {
        NamedCoins x = told(PURSES);
        due("2: how many", x.change(0, 1, 2, 0), NONE);
        due("2: which", x.change(0, 1, 2, 1), NONE);
        due("who has nothing", x.change(3, 0, 5, 0), NONE);
        due("who has a gift alone", x.change(2, 0, 5, 1), NONE);
        due("9 is more than one has", x.change(0, 1, 9, 0), NONE);
    }

    @Says("which (bits: of as few the least)")
    static void promise24_ofAsFewTheLeast() {
        due("5 - 3 ahead of 4 - 2",
                told("person 0 0;person 0 0;coin 5 0;coin 3 1;coin 4 0;coin 2 1;").change(0, 1, 2, 1), 3);
        due("5 - 3 at 0 and 3 ahead of 4 - 2 at 2 and 4",
                told("person 0 0;person 0 0;coin 5 0;coin 9 0;coin 4 0;coin 3 1;coin 2 1;").change(0, 1, 2, 1), 9);
        due("one coin ahead of two", told("person 0 0;person 0 0;coin 5 0;coin 3 1;coin 2 0;").change(0, 1, 2, 1), 4);
    }

    @Says("fewest COINS, all together: how many")
    static void promise24_allTwelveCoins() {
        NamedCoins x = told("person 0 0;person 0 0;" + "coin 2 0;coin 1 1;".repeat(6));
        due("12", x.change(0, 1, 12, 0), 6);
        due("11 = 12 - 1", x.change(0, 1, 11, 0), 7);
        due("which", x.change(0, 1, 11, 1), 1367);
        NamedCoins all = told("person 0 0;person 0 0;" + "coin 99 0;coin 98 1;".repeat(6));
        due("6 by all", all.change(0, 1, 6, 0), 12);
        due("which of them", all.change(0, 1, 6, 1), 4095);
    }

    @Says("(bits: of like ones the least; 0, if there are none)")
    static void promise25_none() {
        NamedCoins x = told(PURSES);
        due("no coins but gifts: by how much", x.share(2, 3, 0), 0);
        due("which", x.share(2, 3, 1), 0);
    }

    @Says("two sets, so that what both have differs least: by how much")
    static void promise25_oneCoin() {
        NamedCoins x = told(PURSES);
        due("4: by how much", x.share(1, 3, 0), 4);
        due("it goes to the other one", x.share(1, 3, 1), 0);
        due("from the other side", x.share(3, 1, 1), 0);
    }

    @Says("(bits: of like ones the least; 0, if there are none)")
    static void promise25_ofLikeOnesTheLeast() {
        NamedCoins x = told("person 0 0;person 0 0;coin 0 0;coin 5 0;coin 5 1;");
        due("alike", x.share(0, 1, 0), 0);
        due("coin 1", x.share(0, 1, 1), 2);
        due("from the other side", x.share(1, 0, 1), 2);
        NamedCoins y = told("person 0 0;person 0 0;coin 1 0;coin 2 0;coin 3 1;");
        due("1 and 2 ahead of 3", y.share(0, 1, 1), 3);
        NamedCoins z = told("person 0 0;person 0 0;coin 3 0;coin 1 0;coin 2 1;");
        due("3 ahead of 1 and 2", z.share(0, 1, 1), 1);
    }

    @Says("A SHARE of all COINS (but GIFTS) of two")
    static void promise25_giftsAndOthersAreNotShared() {
        NamedCoins x = told(PURSES);
        due("5, 3 and 4 : 7 and 5", x.share(0, 1, 0), 2);
        due("5", x.share(0, 1, 1), 1);
        NamedCoins y = told("person 0 0;person 0 0;person 0 0;coin 0 0;coin 8 0;coin 3 2;coin 5 1;coin 0 1;");
        due("8 and 5", y.share(0, 1, 0), 3);
        due("8", y.share(0, 1, 1), 2);
    }

    @Says("A SHARE of all COINS (but GIFTS) of two")
    static void promise25_allTwelveCoins() {
        due("six each", told(TWELVE).share(0, 1, 1), 63);
        due("alike", told(TWELVE).share(0, 1, 0), 0);
        NamedCoins x = told("person 0 0;person 0 0;" + "coin 9 0;".repeat(11) + "coin 99 1;");
        due("99 and 99", x.share(0, 1, 0), 0);
        due("the eleven", x.share(0, 1, 1), 2047);
    }

    @Says("IllegalArgumentException (behind that): both are one.")
    static void promise25_bothAreOne() {
        NamedCoins x = told(PURSES);
        illegal(x, "0 and 0", () -> x.share(0, 0, 0));
        illegal(x, "3 and 3", () -> x.share(3, 3, 1));
    }

    @Says("NoSuchElementException: also another what. IllegalArgumentException (behind that)")
    static void promise25_noSuchElementAhead() {
        NamedCoins x = told(PURSES);
        noSuch(x, "what 2", () -> x.share(0, 1, 2));
        noSuch(x, "what -1", () -> x.share(0, 1, -1));
        noSuch(x, "person 4", () -> x.share(4, 1, 0));
        noSuch(x, "person -1", () -> x.share(-1, 1, 0));
        noSuch(x, "other 4", () -> x.share(0, 4, 0));
        noSuch(x, "other -1", () -> x.share(0, -1, 0));
        noSuch(x, "what 2 of one", () -> x.share(0, 0, 2));
        noSuch(x, "both 4", () -> x.share(4, 4, 0));
        noSuch(x, "both -1", () -> x.share(-1, -1, 1));
    }

    @Says("SHORT: the least sum (1 on, perhaps more than one HAS) that one can't pay so.")
    static void promise26_whoHasNothingLacks1() {
        NamedCoins x = told(PURSES);
        due("nothing", x.lacks(3), 1);
        due("a gift", x.lacks(2), 1);
        due("4", x.lacks(1), 1);
    }

    @Says("SHORT: the least sum (1 on, perhaps more than one HAS) that one can't pay so.")
    static void promise26_moreThanOneHas() {
        due("1", told("person 0 0;coin 1 0;").lacks(0), 2);
        due("12", told(TWELVE).lacks(0), 13);
        due("the most", told("person 0 0;coin 99 0;coin 99 0;coin 99 0;coin 99 0;coin 99 0;coin 64 0;coin 32 0;"
                + "coin 16 0;coin 8 0;coin 4 0;coin 2 0;coin 1 0;").lacks(0), 623);
    }

    @Says("SHORT: the least sum (1 on, perhaps more than one HAS) that one can't pay so.")
    static void promise26_aGapBetween() {
        due("1, 3: 2", told("person 0 0;coin 3 0;coin 1 0;").lacks(0), 2);
        due("1, 2, 4: 8", told("person 0 0;coin 4 0;coin 2 0;coin 1 0;").lacks(0), 8);
        due("1, 2, 5: 4", told("person 0 0;coin 5 0;coin 2 0;coin 1 0;").lacks(0), 4);
    }

    @Says("no such PERSON (as everywhere)")
    static void promise26_noSuchPerson() {
        NamedCoins x = told(PURSES);
        noSuch(x, "4", () -> x.lacks(4));
        noSuch(x, "-1", () -> x.lacks(-1));
        noSuch(x, "the least", () -> x.lacks(LEAST));
        noSuch(x, "the most", () -> x.lacks(MOST));
    }
}
