/** Edges of what was seen and what it tells (promises 28 to 31). */
final class GuessEdges extends Edges {
    /** 0 (need 5) names ten times the need in the first year; 1 has 40. */
    private static final String GUESS = "person 5 0;person 7 0;coin 40 1;minting 1;";
    /** 0 hands the coin 1 on to 1 in the YEAR that is put behind, if the need is more than 5. */
    private static final String NEEDY_SPENDS = "person 0 0 pays 1;person 0 0;coin 3 1;coin 9 0;minting 9;"
            + "spends 5<need and year=";

    @Says("NONE (STATUS 2): there are 8, not 0 to 20.")
    static void promise28_thereAre8() {
        NamedCoins x = told(PAIR);
        for (int i = 1; i <= 8; i++) {
            due("see", x.see(1, i), i);
        }
        refused(x, 2, "a ninth", () -> x.see(1, 0), NONE);
        refused(x, 2, "a ninth like the first", () -> x.see(1, 1), NONE);
        due("seen", x.count(12), 8);
    }

    @Says("NONE (STATUS 2): there are 8, not 0 to 20.")
    static void promise28_not0To20() {
        NamedCoins x = told(PAIR);
        refused(x, 2, "-1", () -> x.see(0, -1), NONE);
        refused(x, 2, "21", () -> x.see(0, 21), NONE);
        refused(x, 2, "the least", () -> x.see(0, LEAST), NONE);
        refused(x, 2, "the most", () -> x.see(0, MOST), NONE);
        due("0", x.see(0, 0), 1);
        due("20", x.see(0, 20), 2);
    }

    @Says("NoSuchElementException (ahead): no such PERSON.")
    static void promise28_noSuchPersonAhead() {
        NamedCoins x = told(PAIR);
        noSuch(x, "2", () -> x.see(2, 0));
        noSuch(x, "-1", () -> x.see(-1, 0));
        noSuch(x, "2 behind 21", () -> x.see(2, 21));
        for (int i = 0; i < 8; i++) {
            x.see(1, 0);
        }
        noSuch(x, "2, and there are 8", () -> x.see(2, 0));
        noSuch(x, "the most", () -> x.see(MOST, MOST));
    }

    @Says("SEEN: how much is.")
    static void promise28_theSameTwiceIsTwo() {
        NamedCoins x = told(PAIR);
        due("once", x.see(1, 5), 1);
        due("twice", x.see(1, 5), 2);
    }

    @Says("NoSuchElementException: another what.")
    static void promise29_anotherWhat() {
        NamedCoins x = told(PAIR);
        noSuch(x, "-1", () -> x.needy(-1));
        noSuch(x, "3", () -> x.needy(3));
        noSuch(x, "the least", () -> x.needy(LEAST));
        noSuch(x, "the most", () -> x.needy(MOST));
    }

    @Says("PEOPLE and NEEDS (0 to 9, another one than one has)")
    static void promise29_nothingSeen() {
        due("one of need 0", told("person 0 0;").needy(0), 9);
        due("the first is need 1", told("person 0 0;").needy(1), 1);
        due("one of need 9", told("person 9 0;").needy(0), 9);
        due("the first is need 0", told("person 9 0;").needy(1), 0);
        due("eight", told("person 3 0;".repeat(8)).needy(0), 72);
        due("so without", told("person 3 0;").needy(2), 1);
    }

    @Says("NEEDY: how many (what 0), the first (1; NONE: none), whether without (2).")
    static void promise29_nobody() {
        NamedCoins x = new NamedCoins();
        due("how many", x.needy(0), 0);
        due("first", x.needy(1), NONE);
        due("without", x.needy(2), 1);
    }

    @Says("NEEDY: how many (what 0), the first (1; NONE: none), whether without (2).")
    static void promise29_none() {
        NamedCoins x = told(GUESS);
        x.see(0, 1);
        x.see(1, 1);
        due("how many", x.needy(0), 0);
        due("first", x.needy(1), NONE);
        due("without", x.needy(2), 0);
    }

    @Says("the first (10 by who, and NEED)")
    static void promise29_theLastOfAll() {
        // 7 has nothing and names ten times the need in the first year: only 90 is more than 85
        NamedCoins x = told("person 0 0;".repeat(8) + "coin 85 0;coin 85 1;coin 85 2;coin 85 3;coin 85 4;coin 85 5;"
                + "coin 85 6;minting 1;");
        x.see(0, 1);
        due("one", x.needy(0), 1);
        due("7 with 9", x.needy(1), 79);
        due("not without", x.needy(2), 0);
    }

    @Says("another one than one has")
    static void promise29_theNeedOneHasIsNotAmongThem() {
        // 0 names ten times the need: up to 4 it is no more than 40, and 0 stays the poorest
        NamedCoins x = told("person 4 0;person 7 0;coin 40 1;minting 1;");
        x.see(0, 1);
        due("so without", x.needy(2), 1);
        due("0 with 0 to 3, 1 with nine others", x.needy(0), 13);
    }

    @Says("that one was the POOREST behind so many YEARS (0 to 20)")
    static void promise29_seenBehind0And20() {
        NamedCoins x = told("person 0 0 pays 1;person 0 0;coin 9 0;minting 9;names 0;spends year=19;");
        x.see(1, 0);
        x.see(1, 19);
        x.see(0, 20);
        due("so", x.needy(2), 1);
        x.see(1, 20);
        due("not so", x.needy(2), 0);
        NamedCoins now = told(PAIR);
        now.see(0, 0);
        due("1 is poorest now", now.needy(2), 0);
        now.forget();
        now.see(1, 0);
        due("so", now.needy(2), 1);
    }

    @Says("by one of which from now on all SEEN would be so")
    static void promise29_allEightAreLookedAt() {
        NamedCoins x = told(GUESS);
        for (int i = 0; i < 7; i++) {
            x.see(0, 0);
        }
        due("all so far", x.needy(0), 18);
        x.see(1, 0);
        due("none by the eighth", x.needy(0), 0);
        NamedCoins y = told(GUESS);
        y.see(1, 0);
        for (int i = 0; i < 7; i++) {
            y.see(0, 0);
        }
        due("none by the first", y.needy(0), 0);
    }

    @Says("by one of which from now on all SEEN would be so")
    static void promise29_fromNowOn() {
        NamedCoins x = told(GUESS);
        x.see(0, 0);
        due("0 is poorest now", x.needy(2), 1);
        x.years(1);
        due("1 is poorest now", x.needy(2), 0);
    }

    @Says("NoSuchElementException: another what.")
    static void promise30_anotherWhat() {
        NamedCoins x = told(PAIR);
        noSuch(x, "-1", () -> x.look(-1));
        noSuch(x, "2", () -> x.look(2));
        noSuch(x, "the least", () -> x.look(LEAST));
        noSuch(x, "the most", () -> x.look(MOST));
    }

    @Says("how many unlike ones; none without any")
    static void promise30_noneWithoutAny() {
        due("nobody", new NamedCoins().look(0), NONE);
        due("none of them", new NamedCoins().look(1), 0);
        NamedCoins x = told(GUESS);
        x.see(0, 0);
        x.see(1, 0);
        due("none needy", x.look(0), NONE);
        due("none of those", x.look(1), 0);
        NamedCoins y = told(GUESS);
        due("some at first", y.look(1) > 0, true);
        y.see(0, 0);
        y.see(1, 0);
        due("none any more", y.look(0), NONE);
        due("none of them, whatever was asked ahead", y.look(1), 0);
    }

    @Says("the COIN (of like ones the least) that behind 8 YEARS would be held most unlike (nobody is one, too) by these")
    static void promise30_ofLikeOnesTheLeast() {
        due("held alike", told(PAIR).look(0), 0);
        due("by one", told(PAIR).look(1), 1);
        due("no coins: nobody alike", told("person 5 0;minting 9;").look(0), 0);
        due("that is one, too", told("person 5 0;minting 9;").look(1), 1);
        NamedCoins x = told("person 0 0 pays 1;person 0 0;coin 3 1;coin 9 0;coin 9 0;minting 9;spends 5<need;");
        due("coins 1 and 2 by 0 or 1", x.look(0), 1);
        due("two", x.look(1), 2);
    }

    @Says("behind 8 YEARS")
    static void promise30_behind8Years() {
        due("in the eighth year", told(NEEDY_SPENDS + "7;").look(0), 1);
        due("two", told(NEEDY_SPENDS + "7;").look(1), 2);
        due("in the ninth year", told(NEEDY_SPENDS + "8;").look(0), 0);
        due("one", told(NEEDY_SPENDS + "8;").look(1), 1);
    }

    @Says("(nobody is one, too)")
    static void promise30_nobodyIsOneToo() {
        // named in the eighth year by 10 times the need, false: 0 crumbles, 10 on are held
        NamedCoins x = told("person 9 1;coin 0 0;minting 8;");
        due("coin 1", x.look(0), 1);
        due("0 and nobody", x.look(1), 2);
    }

    @Says("also one that isn't minted yet, 0 to 11")
    static void promise30_theTwelfthCoinNotMintedYet() {
        NamedCoins x = told("person 9 1;" + "coin 0 0;".repeat(11) + "minting 8;");
        due("coin 11", x.look(0), 11);
        due("0 and nobody", x.look(1), 2);
        due("not minted yet", x.count(1), 11);
    }

    @Says("how many unlike ones")
    static void promise30_mostUnlike() {
        // who needs 5 spends: 0 hands coin 1 on, or 1 hands coin 2 on, or nobody spends
        NamedCoins x = told("person 0 0 pays 1;person 0 0 pays 2;person 0 0;coin 3 2;coin 9 0;coin 9 1;minting 9;"
                + "spends need=5;");
        due("coin 1 by 0 or 1, coin 2 by 1 or 2", x.look(1), 2);
        due("coin 1", x.look(0), 1);
        // all spend, but the one whose need is another
        NamedCoins y = told("person 5 0 pays 1;person 5 0 pays 2;person 5 0;coin 3 2;coin 9 0;minting 9;spends need=5;");
        due("comes to 2, or stays with 0 or with 1", y.look(1), 3);
        due("coin 1 again", y.look(0), 1);
    }

    @Says("All that is SEEN is forgotten.")
    static void promise31_nothingToForget() {
        NamedCoins x = told(PAIR);
        String before = portrait(x) + status(x);
        x.forget();
        Check.same("nothing changes", portrait(x) + status(x), before);
    }

    @Says("All that is SEEN is forgotten.")
    static void promise31_eightCanBeSeenAgain() {
        NamedCoins x = told(GUESS);
        for (int i = 0; i < 8; i++) {
            x.see(1, 0);
        }
        due("none needy", x.needy(0), 0);
        x.forget();
        due("seen", x.count(12), 0);
        due("all again", x.needy(0), 18);
        for (int i = 1; i <= 8; i++) {
            due("see", x.see(0, 0), i);
        }
        due("a ninth", x.see(0, 0), NONE);
        due("only the new ones count", x.needy(0), 18);
    }
}
