/** Edges of what comes if only years go by (promises 14 to 20, and 27). */
final class ForesightEdges extends Edges {
    /** A gift that goes round three people. */
    private static final String ROUND = "person 1 0 pays 1;person 1 0 pays 2;person 1 0 pays 0;coin 0 0;minting 9;";

    @Says("NoSuchElementException: another coin, what.")
    static void promise14_anotherCoin() {
        NamedCoins x = told(PAIR);
        noSuch(x, "-1", () -> x.then(-1, 0, 0));
        noSuch(x, "12", () -> x.then(12, 0, 0));
        noSuch(x, "the least", () -> x.then(LEAST, 0, 0));
        noSuch(x, "the most", () -> x.then(MOST, 0, 0));
        due("11", x.then(11, 0, 0), NONE);
        due("0", x.then(0, 0, 0), 0);
    }

    @Says("NoSuchElementException: another coin, what.")
    static void promise14_anotherWhat() {
        NamedCoins x = told(PAIR);
        noSuch(x, "-1", () -> x.then(0, 0, -1));
        noSuch(x, "2", () -> x.then(0, 0, 2));
        noSuch(x, "the most", () -> x.then(0, 0, MOST));
    }

    @Says("IllegalArgumentException (behind that): not 0 to 60.")
    static void promise14_not0To60() {
        NamedCoins x = told(PAIR);
        illegal(x, "-1", () -> x.then(0, -1, 0));
        illegal(x, "61", () -> x.then(0, 61, 0));
        illegal(x, "the least", () -> x.then(0, LEAST, 1));
        illegal(x, "the most", () -> x.then(11, MOST, 1));
    }

    @Says("IllegalArgumentException (behind that): not 0 to 60.")
    static void promise14_noSuchElementAhead() {
        NamedCoins x = told(PAIR);
        noSuch(x, "coin 12 behind 61", () -> x.then(12, 61, 0));
        noSuch(x, "what 2 behind -1", () -> x.then(0, -1, 2));
    }

    @Says("behind so many YEARS (0 to 60)")
    static void promise14_behind0And60() {
        NamedCoins x = told(GOES_IN_YEAR + "59;");
        due("now", x.then(0, 0, 0), 0);
        due("behind 59", x.then(0, 59, 0), 0);
        due("behind 60", x.then(0, 60, 0), 1);
    }

    @Says("THEN: who holds a COIN (what 0; NONE), WORTH (1; 0: CRUMBLED, not minted)")
    static void promise14_notMinted() {
        NamedCoins x = told("person 0 0;minting 9;names 7;");
        due("holder ahead", x.then(0, 8, 0), NONE);
        due("worth ahead", x.then(0, 8, 1), 0);
        due("holder", x.then(0, 9, 0), 0);
        due("worth", x.then(0, 9, 1), 7);
        due("the next one ahead", x.then(1, 17, 0), NONE);
    }

    @Says("THEN: who holds a COIN (what 0; NONE), WORTH (1; 0: CRUMBLED, not minted)")
    static void promise14_crumbled() {
        NamedCoins x = told("person 0 1;minting 9;names 2;");
        due("holder ahead", x.then(0, 9, 0), 0);
        due("worth ahead", x.then(0, 9, 1), 1);
        due("holder", x.then(0, 10, 0), NONE);
        due("worth", x.then(0, 10, 1), 0);
    }

    @Says("(If only YEARS go by, from now on:)")
    static void promise14_nothingChanges() {
        NamedCoins x = told(FALSE_NAMES);
        String before = portrait(x);
        x.then(11, 60, 0);
        Check.same("what can be asked", portrait(x) + status(x), before + "0 0 0");
    }

    @Says("IllegalArgumentException (behind NoSuchElementException): not 0 to 60.")
    static void promise15_not0To60() {
        NamedCoins x = told(PAIR);
        illegal(x, "-1", () -> x.has(0, -1));
        illegal(x, "61", () -> x.has(0, 61));
        illegal(x, "the least", () -> x.has(0, LEAST));
        illegal(x, "the most", () -> x.has(0, MOST));
    }

    @Says("IllegalArgumentException (behind NoSuchElementException): not 0 to 60.")
    static void promise15_noSuchPersonAhead() {
        NamedCoins x = told(PAIR);
        noSuch(x, "2", () -> x.has(2, 0));
        noSuch(x, "-1", () -> x.has(-1, 0));
        noSuch(x, "2 behind 61", () -> x.has(2, 61));
        noSuch(x, "-1 behind -1", () -> x.has(-1, -1));
    }

    @Says("THEN: what one HAS.")
    static void promise15_behind0And60() {
        NamedCoins x = told(GOES_IN_YEAR + "59;names 0;");
        due("now", x.has(0, 0), 9);
        due("behind 59", x.has(0, 59), 9);
        due("behind 60", x.has(0, 60), 0);
        due("who gets it", x.has(1, 60), 9);
        due("a beggar has all", told("beggar 0 0;coin 9 0;").has(0, 0), 9);
    }

    @Says("NoSuchElementException: another what.")
    static void promise16_anotherWhat() {
        NamedCoins x = told(PAIR);
        noSuch(x, "-1", () -> x.later(0, -1));
        noSuch(x, "4", () -> x.later(0, 4));
        noSuch(x, "the least", () -> x.later(0, LEAST));
        noSuch(x, "the most", () -> x.later(0, MOST));
        noSuch(x, "4 behind 61", () -> x.later(61, 4));
        noSuch(x, "-1 behind -1", () -> x.later(-1, -1));
    }

    @Says("IllegalArgumentException (behind that): not 0 to 60.")
    static void promise16_not0To60() {
        NamedCoins x = told(PAIR);
        for (int what = 0; what <= 3; what++) {
            int asked = what;
            illegal(x, "-1, " + what, () -> x.later(-1, asked));
            illegal(x, "61, " + what, () -> x.later(61, asked));
        }
        illegal(x, "the least", () -> x.later(LEAST, 0));
        illegal(x, "the most", () -> x.later(MOST, 0));
    }

    @Says("POOREST then, RICHEST (who HAS most, beggars whole; of like ones the least); none.")
    static void promise16_noneOfNobody() {
        NamedCoins x = new NamedCoins();
        due("poorest", x.later(60, 0), NONE);
        due("richest", x.later(60, 1), NONE);
        due("named", x.later(60, 2), 0);
        due("passed", x.later(60, 3), 0);
    }

    @Says("RICHEST (who HAS most, beggars whole; of like ones the least)")
    static void promise16_theRichestOfLikeOnes() {
        due("all nothing", told("person 0 0;person 0 0;").later(0, 1), 0);
        due("two have 9", told("person 0 0;person 0 0;person 0 0;coin 8 0;coin 9 2;coin 9 1;").later(0, 1), 1);
        due("a beggar whole", told("person 0 0;beggar 0 0;coin 8 0;coin 9 1;").later(0, 1), 1);
        due("a beggar of like ones", told("beggar 0 0;person 0 0;coin 9 0;coin 9 1;").later(0, 1), 0);
    }

    @Says("POOREST then")
    static void promise16_thePoorestBehind0And60() {
        NamedCoins x = told(GOES_IN_YEAR + "59;names 0;");
        due("now", x.later(0, 0), 1);
        due("behind 59", x.later(59, 0), 1);
        due("behind 60", x.later(60, 0), 0);
        due("richest behind 59", x.later(59, 1), 0);
        due("richest behind 60", x.later(60, 1), 1);
    }

    @Says("NAMED in so many YEARS (0 to 60): how many COINS are minted.")
    static void promise16_namedIn0And60() {
        NamedCoins x = told("person 0 0;minting 6;");
        due("in 0", x.later(0, 2), 0);
        due("in 5", x.later(5, 2), 0);
        due("in 6", x.later(6, 2), 1);
        due("in 59", x.later(59, 2), 9);
        due("in 60", x.later(60, 2), 10);
        due("no more than twelve in all", told("person 0 0;coin 1 0;minting 1;").later(60, 2), 11);
        due("none of a full mint", told(TWELVE).later(60, 2), 0);
    }

    @Says("PASSED in so many YEARS (0 to 60): how often COINS went from one to another one, all together.")
    static void promise16_passedIn0And60() {
        NamedCoins x = told("person 1 0 pays 1;person 1 0 pays 0;minting 9;" + "coin 0 0;coin 0 1;".repeat(6));
        due("in 0", x.later(0, 3), 0);
        due("in 1", x.later(1, 3), 12);
        due("in 60", x.later(60, 3), 720);
        x.years(20);
        due("from now on", x.later(1, 3), 12);
    }

    @Says("NAMES NEXT; NONE: none.")
    static void promise17_noneNamesNext() {
        due("nobody", new NamedCoins().next(), NONE);
        due("a full mint", told(TWELVE).next(), NONE);
        due("all crumbled", after(20, "person 0 1;minting 1;").next(), NONE);
    }

    @Says("NAMES NEXT: who mints the next COIN (within 60 YEARS); none.")
    static void promise17_theTwelfthIsNamed() {
        NamedCoins x = told("person 0 0;person 0 0;coin 9 0;" + "coin 1 0;".repeat(10) + "minting 9;");
        due("the twelfth", x.next(), 1);
        x.years(9);
        due("no thirteenth", x.next(), NONE);
    }

    @Says("NAMES NEXT: who mints the next COIN (within 60 YEARS); none.")
    static void promise17_byWhoIsPoorestInThatYear() {
        // in the YEAR 8 the ninth year's minting stands ahead of what goes in it
        String start = "person 0 0 pays 1;person 0 0;coin 9 0;minting 9;names 0;spends year=";
        due("9 goes in YEAR 7, ahead of the minting", told(start + "7;").next(), 0);
        due("9 goes in YEAR 8, behind the minting", told(start + "8;").next(), 1);
        NamedCoins x = after(9, start + "8;");
        due("the next one from now on", x.next(), 0);
        NamedCoins y = after(8, start + "7;");
        due("in the very next year", y.next(), 0);
        NamedCoins z = told(start + "8;");
        z.later(60, 0);
        due("whatever was asked ahead", z.next(), 1);
    }

    @Says("GETS: behind how many YEARS (0 to 60) one first holds a COIN; none.")
    static void promise18_behind0And60() {
        due("now", told(ROUND).gets(0, 0), 0);
        due("first", told(ROUND).gets(2, 0), 2);
        due("behind 60", told(GOES_IN_YEAR + "59;").gets(1, 0), 60);
        due("behind 61", told(GOES_IN_YEAR + "60;").gets(1, 0), NONE);
        due("never", told(PAIR).gets(1, 0), NONE);
    }

    @Says("GETS; NONE: none.")
    static void promise18_aCrumbledCoin() {
        NamedCoins x = withCrumbled();
        due("crumbled", x.gets(0, 1), NONE);
        due("false, held now", x.gets(0, 0), 0);
        NamedCoins y = after(1, "person 0 1 pays 1;person 0 0;coin 9 1;minting 1;names 2;spends 0<year;");
        due("worth 1", y.coin(1, 0), 1);
        due("it crumbles in the year in which it goes to 1", y.gets(1, 1), NONE);
    }

    @Says("no such COIN (as everywhere; those that aren't minted yet, too)")
    static void promise18_noSuchPersonOrCoin() {
        NamedCoins x = told(PAIR);
        noSuch(x, "a coin not minted yet", () -> x.gets(0, 2));
        noSuch(x, "coin -1", () -> x.gets(0, -1));
        noSuch(x, "coin 12", () -> x.gets(0, 12));
        noSuch(x, "person 2", () -> x.gets(2, 0));
        noSuch(x, "person NONE", () -> x.gets(NONE, 0));
        noSuch(x, "the most", () -> x.gets(MOST, MOST));
    }

    @Says("HANDS: who has held a COIN now, or behind one of so many YEARS (0 to 60), as bits.")
    static void promise19_behind0And60() {
        NamedCoins x = told(ROUND);
        due("0", x.hands(0, 0), 1);
        due("1", x.hands(0, 1), 3);
        due("2", x.hands(0, 2), 7);
        NamedCoins y = told(GOES_IN_YEAR + "59;");
        due("59", y.hands(0, 59), 1);
        due("60", y.hands(0, 60), 3);
    }

    @Says("HANDS: who has held a COIN now, or behind one of so many YEARS (0 to 60), as bits.")
    static void promise19_aCrumbledCoin() {
        NamedCoins x = withCrumbled();
        due("crumbled", x.hands(1, 60), 0);
        due("crumbles", x.hands(0, 60), 1);
        NamedCoins y = after(1, "person 0 1 pays 1;person 0 0;coin 9 1;minting 1;names 2;spends 0<year;");
        due("crumbles in the year in which it goes", y.hands(1, 60), 1);
    }

    @Says("IllegalArgumentException (behind NoSuchElementException): not 0 to 60.")
    static void promise19_not0To60() {
        NamedCoins x = told(PAIR);
        illegal(x, "-1", () -> x.hands(0, -1));
        illegal(x, "61", () -> x.hands(0, 61));
        illegal(x, "the least", () -> x.hands(0, LEAST));
        illegal(x, "the most", () -> x.hands(0, MOST));
        NamedCoins y = withCrumbled();
        illegal(y, "crumbled, 61", () -> y.hands(1, 61));
    }

    @Says("IllegalArgumentException (behind NoSuchElementException): not 0 to 60.")
    static void promise19_noSuchCoinAhead() {
        NamedCoins x = told(PAIR);
        noSuch(x, "2", () -> x.hands(2, 0));
        noSuch(x, "-1", () -> x.hands(-1, 0));
        noSuch(x, "2 behind 61", () -> x.hands(2, 61));
        noSuch(x, "-1 behind -1", () -> x.hands(-1, -1));
    }

    @Says("CRUMBLES: behind how many YEARS (1 to 60) a COIN is CRUMBLED first; none (also if it is now).")
    static void promise20_behind1And60() {
        due("1", after(1, "person 0 1;minting 1;names 2;").crumbles(0), 1);
        due("60", after(1, "person 0 1;minting 1;names 61;").crumbles(0), 60);
        due("61", after(1, "person 0 1;minting 1;names 62;").crumbles(0), NONE);
    }

    @Says("none (also if it is now)")
    static void promise20_itIsNow() {
        NamedCoins x = withCrumbled();
        due("now", x.crumbles(1), NONE);
        due("8", x.crumbles(0), 8);
        x.years(8);
        due("now it is", x.crumbles(0), NONE);
    }

    @Says("CRUMBLES; NONE: none.")
    static void promise20_aCoinThatIsNotFalse() {
        NamedCoins x = told("person 0 1;coin 1 0;coin 0 0;");
        due("1", x.crumbles(0), NONE);
        due("a gift", x.crumbles(1), NONE);
    }

    @Says("no such COIN (as everywhere; those that aren't minted yet, too)")
    static void promise20_noSuchCoin() {
        NamedCoins x = withCrumbled();
        noSuch(x, "not minted yet", () -> x.crumbles(2));
        noSuch(x, "-1", () -> x.crumbles(-1));
        noSuch(x, "the least", () -> x.crumbles(LEAST));
        noSuch(x, "the most", () -> x.crumbles(MOST));
    }

    @Says("TO NAME a COIN: the WORTH (0 to 99; 0: a GIFT) that it must have now")
    static void promise27_from0To99() {
        due("0", told("person 0 0;person 0 0;coin 50 0;").toName(0, 0, 0), 0);
        due("1", told("person 0 0;person 0 0;coin 50 0;").toName(0, 1, 0), 1);
        due("99", told("person 0 0;person 0 0;coin 99 0;coin 5 1;").toName(1, 0, 0), 99);
        due("it would be 100", told("person 0 0;person 0 0;coin 99 0;coin 1 0;coin 5 1;").toName(2, 0, 0), NONE);
    }

    @Says("TO NAME; NONE: none, it is CRUMBLED.")
    static void promise27_itIsCrumbled() {
        NamedCoins x = withCrumbled();
        due("0 is poorest all the same", x.later(0, 0), 0);
        due("crumbled", x.toName(1, 0, 0), NONE);
        due("not crumbled", x.toName(0, 0, 0), 0);
    }

    @Says("so that a told one is the POOREST behind so many YEARS (0 to 60): the least; none.")
    static void promise27_behind0And60() {
        String start = "person 0 0 pays 1;person 0 0;coin 50 0;coin 7 1;minting 9;names 0;spends year=59;";
        NamedCoins x = told(start);
        due("1 behind 0: 8", x.toName(0, 1, 0), 8);
        due("1 behind 59: 8", x.toName(0, 1, 59), 8);
        due("1 behind 60: the coin has gone to 1", x.toName(0, 1, 60), NONE);
        due("0 behind 60", x.toName(0, 0, 60), 0);
    }

    @Says("FALSE or not as it is")
    static void promise27_falseOrNotAsItIs() {
        // a false coin of 0 is crumbled behind a year, of w it is worth w less 1 then
        NamedCoins x = after(1, "person 0 1;person 0 0;coin 9 1;minting 9;");
        NamedCoins y = after(9, "person 0 1;person 0 0;coin 9 1;minting 9;names 5;");
        due("none named yet", x.count(1), 1);
        due("false", y.coin(1, 2), 1);
        due("1 is poorest now", y.toName(1, 1, 0), 10);
        due("behind a year", y.toName(1, 1, 1), 11);
        due("not false behind a year", x.toName(0, 0, 1), 0);
        y.anew(1, 5);
        due("not false any more", y.toName(1, 1, 1), 10);
    }

    @Says("(0 to 99; 0: a GIFT)")
    static void promise27_aGiftIsHandedOn() {
        // a coin of 1 or more stays with 0; as a gift it goes to 1, which changes nothing for the poorest
        NamedCoins x = told("person 0 0 pays 1;person 0 0;coin 50 0;coin 3 1;minting 9;spends 0;");
        due("0 is poorest", x.toName(0, 0, 1), 0);
        due("1 is poorest", x.toName(0, 1, 1), 4);
        due("nothing has changed", x.coin(0, 0), 50);
    }

    @Says("IllegalArgumentException (behind NoSuchElementException): not 0 to 60.")
    static void promise27_not0To60() {
        NamedCoins x = withCrumbled();
        illegal(x, "-1", () -> x.toName(0, 0, -1));
        illegal(x, "61", () -> x.toName(0, 0, 61));
        illegal(x, "a crumbled one behind 61", () -> x.toName(1, 0, 61));
        illegal(x, "the least", () -> x.toName(0, 0, LEAST));
        illegal(x, "the most", () -> x.toName(0, 0, MOST));
    }

    @Says("IllegalArgumentException (behind NoSuchElementException): not 0 to 60.")
    static void promise27_noSuchElementAhead() {
        NamedCoins x = withCrumbled();
        noSuch(x, "not minted yet", () -> x.toName(2, 0, 0));
        noSuch(x, "coin -1", () -> x.toName(-1, 0, 0));
        noSuch(x, "person 1", () -> x.toName(0, 1, 0));
        noSuch(x, "person -1", () -> x.toName(0, -1, 0));
        noSuch(x, "coin 2 behind 61", () -> x.toName(2, 0, 61));
        noSuch(x, "person 1 behind -1", () -> x.toName(0, 1, -1));
        noSuch(x, "a crumbled one of nobody", () -> x.toName(1, 1, 0));
    }
}
