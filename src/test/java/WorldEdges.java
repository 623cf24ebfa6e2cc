/** Edges of a new object and of what can be asked of the world as it is (promises 1 and 5 to 7). */
final class WorldEdges extends Edges {
    @Says("`NamedCoins()`: Nobody, no COINS.")
    static void promise01_nobodyAndNoCoins() {
        NamedCoins x = new NamedCoins();
        due("people", x.count(0), 0);
        due("coins", x.count(1), 0);
        noSuch(x, "person 0", () -> x.person(0, 0));
        noSuch(x, "coin 0", () -> x.coin(0, 0));
        due("coin 0 now", x.then(0, 0, 0), NONE);
    }

    @Says("A MINTING every so many YEARS (1 to 9; 4 without)")
    static void promise01_allCountsOfANewObject() {
        NamedCoins x = new NamedCoins();
        int[] counts = {0, 0, 0, 4, NONE, 0, 0, 0, 0, 0, 0, 0, 0, 0, 0, 0, 0};
        for (int what = 0; what < counts.length; what++) {
            due("count " + what, x.count(what), counts[what]);
        }
    }

    @Says("there are PEOPLE, and COINS are fewer than 12")
    static void promise01_yearsGoByWithoutPeople() {
        NamedCoins x = new NamedCoins();
        due("years", x.years(20), 20);
        due("coins", x.count(1), 0);
        due("undone", x.undo(), 0);
    }

    @Says("NONE = -1")
    static void promise01_noneIsMinusOne() {
        due("NONE", NamedCoins.NONE, -1);
    }

    @Says("NoSuchElementException: another what.")
    static void promise05_anotherWhat() {
        NamedCoins x = told(PAIR);
        noSuch(x, "-1", () -> x.count(-1));
        noSuch(x, "17", () -> x.count(17));
        noSuch(x, "the least", () -> x.count(LEAST));
        noSuch(x, "the most", () -> x.count(MOST));
        due("the last one", x.count(16), 0);
    }

    @Says("4 the POOREST (NONE: nobody)")
    static void promise05_thePoorestOfNobody() {
        due("poorest", new NamedCoins().count(4), NONE);
        due("of one", told("person 9 9;coin 99 0;").count(4), 0);
    }

    @Says("The POOREST is who HAS least so (of like ones the least).")
    static void promise05_thePoorestOfLikeOnes() {
        due("both 7", told("person 0 0;person 0 0;person 0 0;coin 9 0;coin 7 2;coin 7 1;").count(4), 1);
        due("all nothing", told("person 0 0;person 0 0;").count(4), 0);
        due("the last one", told("person 0 0;person 0 0;coin 1 0;").count(4), 1);
    }

    @Says("a beggar counts as one who HAS half of it, cut down, when the POOREST is told")
    static void promise05_aBeggarsHalfIsCutDown() {
        due("4 and half of 9", told("person 0 0;beggar 0 0;coin 4 0;coin 9 1;").count(4), 0);
        due("5 and half of 9", told("person 0 0;beggar 0 0;coin 5 0;coin 9 1;").count(4), 1);
        due("4 and half of 8", told("beggar 0 0;person 0 0;coin 9 0;coin 4 1;").count(4), 0);
        due("half of 1 is nothing", told("beggar 0 0;person 0 0;coin 1 0;").count(4), 0);
    }

    @Says("5 COINS that are FALSE, 6 that are CRUMBLED, 7 GIFTS")
    static void promise05_bitsOfCoins() {
        NamedCoins x = after(3, FALSE_NAMES);
        due("10 and 2 are false", x.count(5), 5);
        due("1 is crumbled", x.count(6), 2);
        due("a crumbled one is no gift", x.count(7), 0);
        due("a crumbled one is a coin", x.count(1), 3);
        x.anew(2, 0);
        due("a gift", x.count(7), 4);
        due("false no more", x.count(5), 1);
    }

    @Says("5 COINS that are FALSE, 6 that are CRUMBLED, 7 GIFTS")
    static void promise05_theTwelfthCoinsBit() {
        NamedCoins x = told(TWELVE);
        x.anew(11, 0);
        due("gifts", x.count(7), 2048);
        due("all crumbled", after(12, "person 0 1;minting 1;").count(6), 4095);
    }

    @Says("A COIN of WORTH 0 that isn't CRUMBLED is a GIFT, however it came to be 0.")
    static void promise05_aGiftHoweverItCame() {
        NamedCoins x = after(1, "person 0 0;coin 0 0;coin 5 0;minting 1;names 0;");
        x.anew(1, 0);
        due("told, named anew, named", x.count(7), 7);
    }

    @Says("11 ACTS that are kept, 12 SEEN, 13 bytes of the tape, 14 to 16 STATUS 0 to 2")
    static void promise05_whatIsNothingAtFirst() {
        NamedCoins x = told(PAIR);
        for (int what = 11; what <= 16; what++) {
            due("count " + what, x.count(what), 0);
        }
    }

    @Says("An object is used for at most 512 calls after it has been made")
    static void promise05_asManyRefusedActsAsCallsAllow() {
        NamedCoins x = new NamedCoins();
        for (int i = 0; i < 511; i++) {
            x.years(0);
        }
        due("the 512th call", x.count(15), 511);
    }

    @Says("NoSuchElementException: no such PERSON (as everywhere), what.")
    static void promise06_noSuchPerson() {
        NamedCoins x = told("person 1 1;".repeat(7));
        due("the last one", x.person(6, 0), 1);
        noSuch(x, "the next one", () -> x.person(7, 0));
        noSuch(x, "NONE", () -> x.person(NONE, 0));
        noSuch(x, "the least", () -> x.person(LEAST, 0));
        noSuch(x, "the most", () -> x.person(MOST, 0));
        NamedCoins full = told("person 1 1;".repeat(8));
        due("the eighth", full.person(7, 0), 1);
        noSuch(full, "a ninth", () -> full.person(8, 0));
    }

    @Says("NoSuchElementException: no such PERSON (as everywhere), what.")
    static void promise06_noSuchWhat() {
        NamedCoins x = told(PAIR);
        noSuch(x, "-1", () -> x.person(0, -1));
        noSuch(x, "7", () -> x.person(0, 7));
        noSuch(x, "the least", () -> x.person(0, LEAST));
        noSuch(x, "the most", () -> x.person(0, MOST));
        due("the last one", x.person(0, 6), 0);
    }

    @Says("2 whom one PAYS (NONE)")
    static void promise06_whoPaysNobody() {
        NamedCoins x = told("person 0 0 pays 1;person 0 0;");
        due("somebody", x.person(0, 2), 1);
        due("nobody", x.person(1, 2), NONE);
    }

    @Says("3 what one HAS, 4 COINS one holds (bits), 5 who PAYS one (bits)")
    static void promise06_whoHasNothing() {
        NamedCoins x = told("person 0 0;person 0 0 pays 0;coin 0 0;");
        due("has nothing", x.person(1, 3), 0);
        due("holds nothing", x.person(1, 4), 0);
        due("is paid by nobody", x.person(1, 5), 0);
        due("a gift is nothing", x.person(0, 3), 0);
        due("but is held", x.person(0, 4), 1);
    }

    @Says("3 what one HAS, 4 COINS one holds (bits), 5 who PAYS one (bits)")
    static void promise06_whoHasAll() {
        NamedCoins x = told("person 0 0;" + "person 0 0 pays 0;".repeat(7) + "coin 99 0;".repeat(12));
        due("has", x.person(0, 3), 1188);
        due("holds", x.person(0, 4), 4095);
        due("is paid by", x.person(0, 5), 254);
    }

    @Says("What one HAS is WORTH of all COINS that one holds (that aren't CRUMBLED), together")
    static void promise06_aBeggarHasAllAndCrumbledOnesAreNothing() {
        due("a beggar", told("beggar 0 0;coin 9 0;").person(0, 3), 9);
        NamedCoins x = withCrumbled();
        due("has", x.person(0, 3), 8);
        due("holds", x.person(0, 4), 1);
    }

    @Says("5 who PAYS one (bits), 6 whether a beggar (1)")
    static void promise06_thePaidEighthAndTheBeggarByOne() {
        NamedCoins x = told("person 0 0 pays 7;".repeat(7) + "beggar 0 0;");
        due("is paid by", x.person(7, 5), 127);
        due("a beggar", x.person(7, 6), 1);
        due("none", x.person(0, 6), 0);
    }

    @Says("NoSuchElementException: no such COIN (as everywhere; those that aren't minted yet, too), what.")
    static void promise07_noSuchCoin() {
        NamedCoins x = told(FALSE_NAMES);
        noSuch(x, "not minted yet", () -> x.coin(0, 0));
        x.years(1);
        due("minted", x.coin(0, 0), 9);
        noSuch(x, "the next one, not minted yet", () -> x.coin(1, 0));
        noSuch(x, "NONE", () -> x.coin(NONE, 0));
        noSuch(x, "the least", () -> x.coin(LEAST, 0));
        noSuch(x, "the most", () -> x.coin(MOST, 0));
        x.undo();
        noSuch(x, "not minted any more", () -> x.coin(0, 0));
    }

    @Says("NoSuchElementException: no such COIN (as everywhere; those that aren't minted yet, too), what.")
    static void promise07_noThirteenthCoin() {
        NamedCoins x = told(TWELVE);
        due("the twelfth", x.coin(11, 0), 1);
        noSuch(x, "a thirteenth", () -> x.coin(12, 0));
    }

    @Says("NoSuchElementException: no such COIN (as everywhere; those that aren't minted yet, too), what.")
    static void promise07_noSuchWhat() {
        NamedCoins x = told(PAIR);
        noSuch(x, "-1", () -> x.coin(0, -1));
        noSuch(x, "4", () -> x.coin(0, 4));
        noSuch(x, "the least", () -> x.coin(0, LEAST));
        noSuch(x, "the most", () -> x.coin(0, MOST));
        due("the last one", x.coin(0, 3), 0);
    }

    @Says("0 WORTH (CRUMBLED: 0), 1 the HOLDER (NONE: CRUMBLED), 2 whether FALSE (1), 3 whether CRUMBLED (1)")
    static void promise07_aCrumbledCoin() {
        NamedCoins x = withCrumbled();
        due("worth", x.coin(1, 0), 0);
        due("holder", x.coin(1, 1), NONE);
        due("false", x.coin(1, 2), 0);
        due("crumbled", x.coin(1, 3), 1);
    }

    @Says("0 WORTH (CRUMBLED: 0), 1 the HOLDER (NONE: CRUMBLED), 2 whether FALSE (1), 3 whether CRUMBLED (1)")
    static void promise07_aGiftIsHeldAndNotCrumbled() {
        NamedCoins x = told("person 0 0;coin 0 0;");
        due("worth", x.coin(0, 0), 0);
        due("holder", x.coin(0, 1), 0);
        due("crumbled", x.coin(0, 3), 0);
    }
}
