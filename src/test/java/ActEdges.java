/** Edges of the acts and of undoing them (promises 9 to 13). */
final class ActEdges extends Edges {
    @Says("NONE (STATUS 1): it is CRUMBLED, that one holds it.")
    static void promise09_aCrumbledCoinIsNotGiven() {
        NamedCoins x = withCrumbled();
        refused(x, 1, "the crumbled one", () -> x.give(1, 0), NONE);
    }

    @Says("NONE (STATUS 1): it is CRUMBLED, that one holds it.")
    static void promise09_whoHoldsItIsNotGivenIt() {
        NamedCoins x = told(PAIR);
        refused(x, 1, "0 holds it", () -> x.give(0, 0), NONE);
        due("given to another one", x.give(0, 1), 0);
        refused(x, 1, "1 holds it now", () -> x.give(0, 1), NONE);
        due("and back", x.give(0, 0), 1);
    }

    @Says("NoSuchElementException (ahead): no such COIN, PERSON.")
    static void promise09_noSuchCoin() {
        NamedCoins x = told(PAIR);
        noSuch(x, "coin 2", () -> x.give(2, 0));
        noSuch(x, "coin -1", () -> x.give(-1, 0));
        noSuch(x, "the least", () -> x.give(LEAST, 0));
        noSuch(x, "the most", () -> x.give(MOST, 0));
    }

    @Says("NoSuchElementException (ahead): no such COIN, PERSON.")
    static void promise09_noSuchPerson() {
        NamedCoins x = told(PAIR);
        noSuch(x, "person 2", () -> x.give(0, 2));
        noSuch(x, "person -1", () -> x.give(0, -1));
        noSuch(x, "the least", () -> x.give(0, LEAST));
        noSuch(x, "the most", () -> x.give(0, MOST));
    }

    @Says("NoSuchElementException (ahead): no such COIN, PERSON.")
    static void promise09_aheadOfWhatIsRefused() {
        NamedCoins x = withCrumbled();
        noSuch(x, "a crumbled coin to nobody", () -> x.give(1, 1));
        noSuch(x, "a crumbled coin to NONE", () -> x.give(1, NONE));
    }

    @Says("a COIN is GIVEN to another one")
    static void promise09_aGiftIsGivenToo() {
        NamedCoins x = told("person 0 0;person 0 0;coin 0 0;");
        due("given", x.give(0, 1), 0);
        due("held", x.coin(0, 1), 1);
    }

    @Says("NONE (STATUS 1): it is 0.")
    static void promise10_aStockingOf0() {
        NamedCoins x = told("person 0 0;person 0 1;person 0 30;");
        refused(x, 1, "0", () -> x.search(0), NONE);
        due("1", x.search(1), 1);
        refused(x, 1, "1 searched again", () -> x.search(1), NONE);
        due("30", x.search(2), 30);
        due("is 0 then", x.person(2, 1), 0);
        due("two acts", x.count(11), 2);
    }

    @Says("no such PERSON (as everywhere)")
    static void promise10_noSuchPerson() {
        NamedCoins x = told(FALSE_NAMES);
        noSuch(x, "1", () -> x.search(1));
        noSuch(x, "-1", () -> x.search(-1));
        noSuch(x, "the least", () -> x.search(LEAST));
        noSuch(x, "the most", () -> x.search(MOST));
    }

    @Says("-2 (STATUS 1): it is so, it is oneself.")
    static void promise11_itIsSo() {
        NamedCoins x = told("person 0 0 pays 1;person 0 0;");
        refused(x, 1, "0 pays 1", () -> x.pays(0, 1), -2);
        refused(x, 1, "1 pays nobody", () -> x.pays(1, NONE), -2);
    }

    @Says("-2 (STATUS 1): it is so, it is oneself.")
    static void promise11_itIsOneself() {
        NamedCoins x = told("person 0 0 pays 1;person 0 0;");
        refused(x, 1, "0 pays 0", () -> x.pays(0, 0), -2);
        refused(x, 1, "1 pays 1", () -> x.pays(1, 1), -2);
    }

    @Says("PAYS: whom one paid (NONE).")
    static void promise11_fromAndToNobody() {
        NamedCoins x = told("person 0 0 pays 1;person 0 0;");
        due("1 paid nobody", x.pays(1, 0), NONE);
        due("0 paid 1", x.pays(0, NONE), 1);
        due("0 pays nobody", x.person(0, 2), NONE);
        due("0 paid nobody", x.pays(0, 1), NONE);
        due("none refused", x.count(15), 0);
        due("acts", x.count(11), 3);
    }

    @Says("NoSuchElementException: no such PERSON (the other one may be NONE).")
    static void promise11_noSuchOther() {
        NamedCoins x = told("person 0 0 pays 1;person 0 0;");
        noSuch(x, "2", () -> x.pays(0, 2));
        noSuch(x, "-2", () -> x.pays(0, -2));
        noSuch(x, "the least", () -> x.pays(0, LEAST));
        noSuch(x, "the most", () -> x.pays(0, MOST));
        NamedCoins full = told("person 0 0;".repeat(8));
        noSuch(full, "a ninth", () -> full.pays(0, 8));
        due("the eighth", full.pays(0, 7), NONE);
    }

    @Says("NoSuchElementException: no such PERSON (the other one may be NONE).")
    static void promise11_noSuchPerson() {
        NamedCoins x = told("person 0 0 pays 1;person 0 0;");
        noSuch(x, "2", () -> x.pays(2, 0));
        noSuch(x, "NONE", () -> x.pays(NONE, 0));
        noSuch(x, "nobody who is oneself", () -> x.pays(2, 2));
        noSuch(x, "NONE who pays NONE", () -> x.pays(NONE, NONE));
        noSuch(x, "the most", () -> x.pays(MOST, NONE));
    }

    @Says("NONE (STATUS 1): not 0 to 99, it is CRUMBLED.")
    static void promise12_not0To99() {
        NamedCoins x = told(PAIR);
        refused(x, 1, "-1", () -> x.anew(0, -1), NONE);
        refused(x, 1, "100", () -> x.anew(0, 100), NONE);
        refused(x, 1, "the least", () -> x.anew(0, LEAST), NONE);
        refused(x, 1, "the most", () -> x.anew(0, MOST), NONE);
        due("0", x.anew(0, 0), 40);
        due("99", x.anew(0, 99), 0);
        due("worth", x.coin(0, 0), 99);
    }

    @Says("NONE (STATUS 1): not 0 to 99, it is CRUMBLED.")
    static void promise12_itIsCrumbled() {
        NamedCoins x = withCrumbled();
        refused(x, 1, "5", () -> x.anew(1, 5), NONE);
        refused(x, 1, "0", () -> x.anew(1, 0), NONE);
        refused(x, 1, "100", () -> x.anew(1, 100), NONE);
    }

    @Says("a COIN is named ANEW: a WORTH (0 to 99, also the one it has; FALSE no more)")
    static void promise12_theWorthThatItHas() {
        NamedCoins x = withCrumbled();
        due("false", x.coin(0, 2), 1);
        due("8, as it was", x.anew(0, 8), 8);
        due("an act", x.count(11), 2);
        due("false no more", x.coin(0, 2), 0);
        due("wears no more", x.then(0, 60, 1), 8);
    }

    @Says("a COIN is named ANEW: a WORTH (0 to 99, also the one it has; FALSE no more)")
    static void promise12_toAGiftAndBack() {
        NamedCoins x = withCrumbled();
        due("0", x.anew(0, 0), 8);
        due("a gift that doesn't crumble", x.then(0, 60, 0), 0);
        due("gift", x.count(7), 1);
        due("back", x.anew(0, 1), 0);
        due("no gift", x.count(7), 0);
    }

    @Says("no such COIN (as everywhere; those that aren't minted yet, too)")
    static void promise12_noSuchCoinAheadOfWhatIsRefused() {
        NamedCoins x = told(PAIR);
        noSuch(x, "2", () -> x.anew(2, 5));
        noSuch(x, "-1", () -> x.anew(-1, 5));
        noSuch(x, "2, and 100", () -> x.anew(2, 100));
        noSuch(x, "the least", () -> x.anew(LEAST, -1));
        noSuch(x, "the most", () -> x.anew(MOST, 5));
    }

    @Says("NONE: there is none.")
    static void promise13_noneOfNone() {
        NamedCoins x = told(PAIR);
        due("none", x.undo(), NONE);
        x.give(0, 1);
        due("one", x.undo(), 0);
        String before = portrait(x);
        due("none again", x.undo(), NONE);
        Check.same("nothing changes", portrait(x) + status(x), before + "0 0 0");
    }

    @Says("ACTS (at most 40 are kept, the latest ones)")
    static void promise13_fortyAreKept() {
        NamedCoins x = told(PAIR);
        for (int i = 1; i <= 40; i++) {
            x.anew(0, i);
            due("kept", x.count(11), i);
        }
        for (int left = 39; left >= 0; left--) {
            due("left", x.undo(), left);
        }
        due("as at first", x.coin(0, 0), 40);
        due("none", x.undo(), NONE);
    }

    @Says("ACTS (at most 40 are kept, the latest ones)")
    static void promise13_theFortyFirstDropsTheFirst() {
        NamedCoins x = told(PAIR);
        for (int i = 1; i <= 41; i++) {
            x.anew(0, i);
        }
        due("kept", x.count(11), 40);
        for (int left = 39; left >= 0; left--) {
            due("left", x.undo(), left);
            due("worth with " + left, x.coin(0, 0), left + 1);
        }
        due("none", x.undo(), NONE);
        due("as behind the first", x.coin(0, 0), 1);
    }

    @Says("ACTS (at most 40 are kept, the latest ones)")
    static void promise13_actsBehindUndoneOnes() {
        NamedCoins x = told(PAIR);
        for (int i = 0; i < 60; i++) {
            x.anew(0, i);
        }
        for (int i = 0; i < 30; i++) {
            x.undo();
        }
        due("worth behind 30 undone", x.coin(0, 0), 29);
        for (int i = 60; i < 95; i++) {
            x.anew(0, i);
        }
        due("kept", x.count(11), 40);
        for (int i = 0; i < 35; i++) {
            x.undo();
        }
        due("worth ahead of the later ones", x.coin(0, 0), 29);
        due("left", x.undo(), 4);
        due("worth", x.coin(0, 0), 28);
    }

    @Says("They are UNDONE, the last one first.")
    static void promise13_eachKindIsUndone() {
        NamedCoins x = told("person 1 3 pays 1;person 2 4;coin 9 0;coin 0 1;minting 1;");
        Check.Call[] acts = {() -> x.give(0, 1), () -> x.search(1), () -> x.pays(0, NONE), () -> x.anew(1, 50),
            () -> x.years(3), () -> x.pays(1, 0), () -> x.years(20)};
        String[] ahead = new String[acts.length];
        for (int i = 0; i < acts.length; i++) {
            ahead[i] = portrait(x);
            acts[i].run();
            due("acts", x.count(11), i + 1);
        }
        for (int i = acts.length - 1; i >= 0; i--) {
            due("left", x.undo(), i);
            Check.same("ahead of act " + i, portrait(x), ahead[i]);
        }
    }

    @Says("They are UNDONE, the last one first.")
    static void promise13_whatWasMintedAndCrumbledIsUndone() {
        NamedCoins x = told(FALSE_NAMES);
        x.years(2);
        x.years(20);
        due("coins", x.count(1), 12);
        due("undone", x.undo(), 1);
        due("coins as they were", x.count(1), 2);
        due("false as they were", x.count(5), 1);
        due("crumbled as they were", x.count(6), 2);
        due("undone, too", x.undo(), 0);
        due("no coins", x.count(1), 0);
        due("none crumbled", x.count(6), 0);
        due("year", x.count(2), 0);
        noSuch(x, "coin 0", () -> x.coin(0, 0));
    }

    @Says("They are UNDONE, the last one first.")
    static void promise13_allTwelveCoinsAndAllEightPeople() {
        StringBuilder text = new StringBuilder();
        for (int person = 0; person < 8; person++) {
            text.append("person 5 ").append(30 - person).append(" pays ").append((person + 1) % 8).append(';');
        }
        for (int coin = 0; coin < 12; coin++) {
            text.append("coin ").append(99 - coin).append(' ').append(coin % 8).append(';');
        }
        NamedCoins x = told(text + "spends 1;");
        String before = portrait(x);
        x.years(3);
        for (int coin = 0; coin < 12; coin++) {
            x.anew(coin, coin);
            x.give(coin, coin % 8);
        }
        for (int person = 0; person < 8; person++) {
            x.search(person);
        }
        due("acts", x.count(11), 33);
        for (int left = 32; left >= 0; left--) {
            due("left", x.undo(), left);
        }
        Check.same("all as it was", portrait(x), before);
    }

    @Says("They are UNDONE, the last one first.")
    static void promise13_theLastCoinsFalsehoodIsUndone() {
        NamedCoins x = told("person 0 1;" + "coin 3 0;".repeat(9) + "minting 1;names 5-coins/10*5;");
        x.years(2);
        String before = portrait(x);
        due("the tenth and the eleventh are false or crumbled", x.count(5) | x.count(6), 512 + 1024);
        x.years(20);
        due("undone", x.undo(), 1);
        Check.same("as it was", portrait(x), before);
    }

    @Says("The last ACT is UNDONE: how many are left.")
    static void promise13_whatIsRefusedOrSeenIsNoAct() {
        NamedCoins x = told(PAIR);
        x.give(0, 1);
        x.years(0);
        x.give(0, 1);
        x.search(0);
        x.pays(0, NONE);
        x.anew(0, 100);
        x.see(0, 0);
        x.see(0, 21);
        x.forget();
        due("acts", x.count(11), 1);
        due("left", x.undo(), 0);
        due("holder", x.coin(0, 1), 0);
    }

    @Says("The last ACT is UNDONE: how many are left.")
    static void promise13_statusAndSightsAreNotUndone() {
        NamedCoins x = told(PAIR);
        x.give(0, 1);
        x.years(0);
        x.see(0, 0);
        x.undo();
        due("refused", x.count(15), 1);
        due("seen", x.count(12), 1);
    }
}
