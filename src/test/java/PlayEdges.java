import java.util.function.Predicate;

/** Edges of thieves, the game of two, and ages by a seed (promises 32 to 34). */
final class PlayEdges extends Edges {
    private static final String[] SEEDLESS = {"minted", "crumbled", "what all have"};

    /** What a seed draws, ahead of MOD n: so many numbers one behind the other. */
    private static int[] drawn(int seed, int many) {
        int[] numbers = new int[many];
        long state = seed & 0xffffffffL;
        for (int i = 0; i < many; i++) {
            state = (state * 1103515245L + 12345L) & 0xffffffffL;
            numbers[i] = (int) (state / 65536 % 32768);
        }
        return numbers;
    }

    private static int seedWhere(Predicate<int[]> isFit) {
        for (int seed = 0; seed < 1000000; seed++) {
            if (isFit.test(drawn(seed, 9))) {
                return seed;
            }
        }
        throw new IllegalStateException("no such seed");
    }

    @Says("IllegalArgumentException (behind NoSuchElementException): years, tenths.")
    static void promise32_years() {
        NamedCoins x = told(PAIR);
        illegal(x, "0", () -> x.thieves(0, 0, 5));
        illegal(x, "6", () -> x.thieves(0, 6, 5));
        illegal(x, "-1", () -> x.thieves(0, -1, 5));
        illegal(x, "the least", () -> x.thieves(0, LEAST, 5));
        illegal(x, "the most", () -> x.thieves(0, MOST, 5));
        due("1", x.thieves(0, 1, 0) + x.thieves(1, 1, 0), 10);
        due("5", x.thieves(0, 5, 0) + x.thieves(1, 5, 0), 100000);
    }

    @Says("IllegalArgumentException (behind NoSuchElementException): years, tenths.")
    static void promise32_tenths() {
        NamedCoins x = told(PAIR);
        illegal(x, "-1", () -> x.thieves(0, 1, -1));
        illegal(x, "11", () -> x.thieves(0, 1, 11));
        illegal(x, "the least", () -> x.thieves(0, 5, LEAST));
        illegal(x, "the most", () -> x.thieves(0, 5, MOST));
    }

    @Says("IllegalArgumentException (behind NoSuchElementException): years, tenths.")
    static void promise32_noSuchPersonAhead() {
        NamedCoins x = told(PAIR);
        noSuch(x, "2", () -> x.thieves(2, 1, 5));
        noSuch(x, "-1", () -> x.thieves(-1, 1, 5));
        noSuch(x, "2 in 0 years", () -> x.thieves(2, 0, 5));
        noSuch(x, "2 with 11 tenths", () -> x.thieves(2, 1, 11));
    }

    @Says("there are THIEVES with so many tenths (0 to 10)")
    static void promise32_neverAndAlways() {
        // 9 goes to who has least, to and fro; 5 stays with 0
        NamedCoins x = told("person 0 0;person 0 0;coin 9 0;coin 5 0;minting 9;");
        due("never: 1 is poorest", x.thieves(1, 1, 0), 10);
        due("never: 0 is not", x.thieves(0, 1, 0), 0);
        due("always: 0 has 5", x.thieves(0, 1, 10), 10);
        due("always: 1 has 9", x.thieves(1, 1, 10), 0);
        due("always, five years", x.thieves(0, 5, 10), 100000);
        due("always, four years", x.thieves(0, 4, 10), 0);
    }

    @Says("as so many of 10 to the power of these YEARS")
    static void promise32_of10ToThePowerOfTheYears() {
        NamedCoins x = told("person 0 0;person 0 0;coin 9 0;coin 5 0;minting 9;");
        due("3 of 10", x.thieves(0, 1, 3), 3);
        due("once of two: 2 * 3 * 7", x.thieves(0, 2, 3), 42);
        due("never or twice", x.thieves(1, 2, 3), 58);
        due("once or thrice of three: 3 * 147 + 27", x.thieves(0, 3, 3), 468);
        due("together, five years", x.thieves(0, 5, 3) + x.thieves(1, 5, 3), 100000);
        due("1 of 10", x.thieves(0, 1, 1), 1);
        due("9 of 10", x.thieves(1, 1, 1), 9);
        due("once or thrice of three, with 1: 3 * 81 + 1", x.thieves(0, 3, 1), 244);
    }

    @Says("the COIN of most WORTH (of like ones the least; not CRUMBLED; a GIFT, if there are no others)")
    static void promise32_ofLikeCoinsTheLeast() {
        // 2 has nothing; taken from 0, 0 has 1 left; taken from 1, 1 has 2 left
        NamedCoins x = told("person 0 0;person 0 0;person 0 0;coin 7 0;coin 7 1;coin 1 0;coin 2 1;minting 9;");
        due("from 0", x.thieves(0, 1, 10), 10);
        NamedCoins y = told("person 0 0;person 0 0;person 0 0;coin 7 1;coin 7 0;coin 1 0;coin 2 1;minting 9;");
        due("from 1", y.thieves(1, 1, 10), 10);
    }

    @Says("the COIN of most WORTH (of like ones the least; not CRUMBLED; a GIFT, if there are no others)")
    static void promise32_giftsCrumbledOnesAndNone() {
        due("no coins", told("person 0 0;person 0 0;").thieves(0, 3, 10), 1000);
        due("gifts alone", told("person 0 0;person 0 0;coin 0 1;coin 0 1;minting 9;").thieves(0, 1, 10), 10);
        due("a gift ahead of 1", told("person 0 0;person 0 0;coin 0 1;coin 1 1;minting 9;").thieves(1, 1, 10), 10);
        NamedCoins crumbled = after(9, "person 0 1;person 0 0;coin 0 1;minting 9;names 1;");
        due("a crumbled one", crumbled.count(6), 2);
        due("is not stolen", crumbled.thieves(0, 5, 10), 100000);
    }

    @Says("how likely one is the POOREST behind them")
    static void promise32_behindJustSoManyYears() {
        NamedCoins x = told(GOES_IN_YEAR + "4;");
        due("behind 4 years", x.thieves(1, 4, 0), 10000);
        due("behind 5 years", x.thieves(0, 5, 0), 100000);
        due("behind 5 years no more", x.thieves(1, 5, 0), 0);
    }

    @Says("ahead of the YEAR the COIN of most WORTH")
    static void promise32_aheadOfTheYear() {
        // what the thieves bring 1 goes on to 2 in the same year
        NamedCoins x = told("person 0 0;person 0 0 pays 2;person 0 0;coin 9 0;coin 5 2;coin 1 0;minting 9;spends 1;");
        due("1 has nothing again", x.thieves(1, 1, 10), 10);
        NamedCoins y = told("person 0 0;person 0 0 pays 2;person 0 0;coin 9 0;coin 5 2;coin 1 0;minting 9;spends 0;");
        due("1 keeps 9, 0 has 1", y.thieves(0, 1, 10), 10);
        // who names in the first year is told by what was stolen ahead: 0 has nothing left and names 30
        NamedCoins z = told("person 3 0;person 0 0;coin 9 0;minting 1;");
        due("0 has 30, 1 has 9", z.thieves(1, 1, 10), 10);
    }

    @Says("IllegalArgumentException (behind that): both are one.")
    static void promise33_bothAreOne() {
        NamedCoins x = told(PAIR);
        illegal(x, "0 and 0", () -> x.game(0, 0, 0));
        illegal(x, "1 and 1", () -> x.game(1, 1, 1));
    }

    @Says("NoSuchElementException: also another what. IllegalArgumentException (behind that): both are one.")
    static void promise33_noSuchElementAhead() {
        NamedCoins x = told(PAIR);
        noSuch(x, "what 2", () -> x.game(0, 1, 2));
        noSuch(x, "what -1", () -> x.game(0, 1, -1));
        noSuch(x, "person 2", () -> x.game(2, 0, 0));
        noSuch(x, "person -1", () -> x.game(-1, 0, 0));
        noSuch(x, "other 2", () -> x.game(0, 2, 0));
        noSuch(x, "other -1", () -> x.game(0, -1, 0));
        noSuch(x, "what 2 of one", () -> x.game(0, 0, 2));
        noSuch(x, "both 2", () -> x.game(2, 2, 0));
        noSuch(x, "the least and the most", () -> x.game(LEAST, MOST, 0));
    }

    @Says("(who holds none has 0 alone)")
    static void promise33_whoHoldsNoneHas0Alone() {
        NamedCoins none = told("person 0 0;person 0 0;person 0 0;coin 9 2;minting 9;");
        due("both hold none", none.game(0, 1, 0), 1);
        due("0 and 0", none.game(0, 1, 1), 0);
        // 2 has nothing all the time; 3 given away changes no ten
        NamedCoins one = told("person 0 0;person 0 0;person 0 0;coin 9 0;coin 3 0;minting 9;");
        due("0 gives 9 or not", one.game(0, 1, 0), 1);
        due("0 keeps 9", one.game(0, 1, 1), 0);
        NamedCoins like = told("person 0 0;person 0 0;person 0 0;coin 3 0;coin 1 0;coin 3 1;coin 1 1;minting 9;");
        due("it is all one", like.game(0, 1, 0), 4);
        like.give(2, 0);
        like.give(3, 0);
        due("1 holds none: 0 gives or not", like.game(0, 1, 0), 2);
        due("from the other side", like.game(1, 0, 0), 2);
    }

    @Says("(of like ones the least; no GIFT)")
    static void promise33_giftsAreNotGiven() {
        NamedCoins x = told("person 0 0;person 0 0;coin 0 0;coin 0 1;minting 9;");
        due("one couple", x.game(0, 1, 0), 1);
        due("0 and 0", x.game(0, 1, 1), 0);
    }

    @Says("(of like ones the least; no GIFT)")
    static void promise33_ofLikeCoinsTheLeast() {
        // 0 holds 7, 4, and a 7 that is false and behind 6 years 1; 2 holds none; 1 is poorest all the time
        NamedCoins x = after(9, "person 0 0;person 0 1;person 0 0;coin 7 0;coin 4 0;minting 9;names 8;");
        x.give(2, 0);
        due("false, 7", x.coin(2, 0), 7);
        due("coin 0 is given: of 12 only 5 are left", x.game(0, 2, 0), 1);
        x.anew(0, 6);
        due("coin 2 is given: of 11 there are 10 left", x.game(0, 2, 0), 2);
    }

    @Says("each gains what one HAS behind 6 YEARS, by 10, cut down, and 3, if one is not the POOREST then")
    static void promise33_tensAreCutDown() {
        String people = "person 0 0;person 0 0;person 0 0;minting 9;";
        due("9 and 9: no tens whatever is given", told(people + "coin 5 0;coin 1 0;coin 1 1;coin 2 1;").game(0, 1, 0), 4);
        due("10 is a ten, 4 is none", told(people + "coin 6 0;coin 4 0;coin 1 1;coin 1 1;").game(0, 1, 0), 2);
        due("19 is one ten, as 10", told(people + "coin 9 0;coin 5 0;coin 5 0;").game(0, 1, 0), 2);
        due("9 is none", told(people + "coin 9 0;coin 5 0;coin 4 0;").game(0, 1, 0), 1);
    }

    @Says("behind 6 YEARS")
    static void promise33_behind6Years() {
        // 0 loses 50 to 2 in the told year, unless it has been given to 1, who hands it back in that year
        String start = "person 0 0 pays 2;person 0 0 pays 0;person 0 0;coin 50 0;coin 9 2;minting 9;"
                + "spends worth=50 and year=";
        due("in the sixth year", told(start + "5;").game(0, 1, 1), 10);
        due("in the seventh year", told(start + "6;").game(0, 1, 1), 0);
    }

    @Says("A GAME: how many couples rest (what 0), the first (1; NONE: none).")
    static void promise33_theFirstAndTheLastCouple() {
        due("0", told(PAIR).game(0, 1, 1), 0);
        NamedCoins x = told("person 0 0 pays 2;person 0 0 pays 0;person 0 0;coin 50 0;coin 9 2;minting 9;"
                + "spends worth=50 and year<1;");
        due("10", x.game(0, 1, 1), 10);
        due("1 from the other side", x.game(1, 0, 1), 1);
    }

    @Says("A GAME: how many couples rest (what 0), the first (1; NONE: none).")
    static void promise33_noneRests() {
        // gains (0, 0): 2, 5; (0, 1): 6, 1; (1, 0): 6, 1; (1, 1): 2, 5
        NamedCoins x = told("person 0 0;person 0 0 pays 0;coin 10 1;coin 20 1;coin 10 0;minting 9;spends 20<has;");
        due("how many", x.game(0, 1, 0), 0);
        due("the first", x.game(0, 1, 1), NONE);
        due("from the other side", x.game(1, 0, 1), NONE);
    }

    @Says("the first (10 by the first one's, and the other one's)")
    static void promise33_onlyTheLastCoupleRests() {
        // in the first year each coin goes to the other one; gains (0, 0): 1, 7; (0, 1): 0, 8; (1, 0): 8, 0; (1, 1): 7, 1
        NamedCoins x = told("person 0 0 pays 1;person 0 0 pays 0;coin 40 0;coin 10 1;minting 9;spends year<1;");
        due("how many", x.game(0, 1, 0), 1);
        due("both give", x.game(0, 1, 1), 11);
    }

    @Says("both at once, of those held now")
    static void promise33_whatComesFromTheOtherOneIsNotGivenBack() {
        // 1 hands on what is more than 20; gains (0, 0): 6, 1; (0, 1), (1, 0), (1, 1): 7, 0; were 30 given back: 6, 1
        NamedCoins x = told("person 0 0;person 0 0 pays 0;coin 10 1;coin 30 0;minting 9;spends 20<has;");
        due("how many", x.game(0, 1, 0), 2);
        due("the first", x.game(0, 1, 1), 10);
        due("from the other side", x.game(1, 0, 1), 1);
    }

    @Says("and 3, if one is not the POOREST then")
    static void promise33_threeForNotBeingThePoorest() {
        // if 0 gives the first coin, 1 has 80 or more and 2 hands 90 to 1: 0 has 5, but 2 is the poorest
        String people = "person 0 0;person 0 0;person 0 0 pays 1;minting 9;spends 75<theirs;coin 5 0;coin 60 1;coin 90 2;";
        due("25 kept gains 2", told(people + "coin 20 0;").game(0, 1, 1), 10);
        due("one couple", told(people + "coin 20 0;").game(0, 1, 0), 1);
        due("35 kept gains 3, as much", told(people + "coin 30 0;").game(0, 1, 0), 2);
        due("45 kept gains 4", told(people + "coin 40 0;").game(0, 1, 0), 1);
        due("none gives", told(people + "coin 40 0;").game(0, 1, 1), 0);
    }

    @Says("A couple RESTS, if neither gains more by the other choice")
    static void promise33_asMuchIsNotMore() {
        NamedCoins x = told("person 0 0;person 0 0;coin 5 0;coin 4 1;minting 9;");
        // gains (0, 0): 3, 0; (0, 1): 3, 0; (1, 0): 0, 3; (1, 1): 0, 3
        due("to 1 it is all one", x.game(0, 1, 0), 2);
        due("the first", x.game(0, 1, 1), 0);
        due("from the other side", x.game(1, 0, 0), 2);
    }

    @Says("NoSuchElementException: another what.")
    static void promise34_anotherWhat() {
        NamedCoins x = told(PAIR);
        noSuch(x, "-1", () -> x.ages(1, 1, -1));
        noSuch(x, "3", () -> x.ages(1, 1, 3));
        noSuch(x, "3 in 61 years", () -> x.ages(1, 61, 3));
        noSuch(x, "the most", () -> x.ages(MOST, MOST, MOST));
    }

    @Says("IllegalArgumentException (behind that): n.")
    static void promise34_n() {
        NamedCoins x = told(PAIR);
        for (int what = 0; what < SEEDLESS.length; what++) {
            int asked = what;
            illegal(x, "-1, " + SEEDLESS[what], () -> x.ages(1, -1, asked));
            illegal(x, "61, " + SEEDLESS[what], () -> x.ages(1, 61, asked));
        }
        illegal(x, "the least", () -> x.ages(1, LEAST, 0));
        illegal(x, "the most", () -> x.ages(1, MOST, 0));
    }

    @Says("n YEARS (0 to 60) from now on")
    static void promise34_noYearsAndSixty() {
        NamedCoins x = withCrumbled();
        due("minted in none", x.ages(7, 0, 0), 0);
        due("crumbled in none", x.ages(7, 0, 1), 0);
        due("what all have now", x.ages(7, 0, 2), 8);
        due("minted in 60: up to twelve", x.ages(7, 60, 0), 10);
        NamedCoins y = told("person 0 0;minting 6;");
        due("minted in 59", y.ages(7, 59, 0), 9);
        due("minted in 60", y.ages(7, 60, 0), 10);
    }

    @Says("(Without PEOPLE nothing is drawn behind 0 to 2, without COINS nothing behind 0.)")
    static void promise34_withoutPeople() {
        NamedCoins x = told("minting 1;names 9;");
        for (int seed = -20; seed < 20; seed++) {
            for (int what = 0; what < SEEDLESS.length; what++) {
                due(SEEDLESS[what] + " by seed " + seed, x.ages(seed, 60, what), 0);
            }
        }
    }

    @Says("(Without PEOPLE nothing is drawn behind 0 to 2, without COINS nothing behind 0.)")
    static void promise34_withoutCoins() {
        // 0 draws nothing more, so the second number draws 1, a stocking: the coin named then is false
        int seed = seedWhere(n -> n[0] % 6 == 0 && n[1] % 6 == 1 && n[3] % 5 != 0 && n[2] % 6 > 2 && n[3] % 6 > 2);
        due("49", told("person 5 0;minting 2;").ages(seed, 2, 2), 49);
    }

    @Says("0 a DRAW of COINS (of all that there are then, CRUMBLED ones, too) is GIVEN to a DRAW of PEOPLE")
    static void promise34_crumbledCoinsAreDrawnToo() {
        // coin 0 (30) is held by 1, coin 1 is crumbled; who is poorest names 1, false if that one is 0
        NamedCoins x = after(1, "person 2 1;person 7 0;coin 30 1;minting 1;names 1;");
        due("crumbled", x.count(6), 2);
        int crumbled = seedWhere(n -> n[0] % 6 == 0 && n[1] % 2 == 1 && n[2] % 2 == 0);
        due("nothing, if it is crumbled: 0 names", x.ages(crumbled, 1, 1), 1);
        int whole = seedWhere(n -> n[0] % 6 == 0 && n[1] % 2 == 0 && n[2] % 2 == 0);
        due("30 is given to 0: 1 names", x.ages(whole, 1, 1), 0);
        int held = seedWhere(n -> n[0] % 6 == 0 && n[1] % 2 == 0 && n[2] % 2 == 1);
        due("30 is given to 1, who holds it: 0 names", x.ages(held, 1, 1), 1);
    }

    @Says("(nothing, if it is CRUMBLED)")
    static void promise34_behindACrumbledCoinAPersonIsDrawnAllTheSame() {
        NamedCoins x = after(2, "person 5 1;minting 2;names 1;");
        x.search(0);
        due("crumbled", x.count(6), 1);
        int seed = seedWhere(n -> n[0] % 6 == 0 && n[2] % 6 == 3 && n[3] % 6 == 1 && n[5] % 5 != 0);
        due("the fourth number draws a stocking", x.ages(seed, 2, 1), 1);
    }

    @Says("1 a DRAW of PEOPLE has a STOCKING that is a DRAW of 5")
    static void promise34_stockingsOf0And4() {
        int none = seedWhere(n -> n[0] % 6 == 1 && n[2] % 5 == 0 && n[2] % 6 != 0 && n[2] % 4 != 0);
        due("0: true, though there was a stocking", told("person 5 30;minting 1;").ages(none, 1, 2), 50);
        int most = seedWhere(n -> n[0] % 6 == 1 && n[2] % 5 == 4);
        due("4: false", told("person 5 0;minting 1;names 40+stocking;").ages(most, 1, 2), 43);
        int other = seedWhere(n -> n[0] % 6 == 1 && n[1] % 2 == 1 && n[2] % 5 != 0);
        due("another one's", told("person 5 0;person 5 0;minting 1;").ages(other, 1, 2), 50);
    }

    @Says("2 a DRAW of PEOPLE PAYS a DRAW of PEOPLE (oneself: nobody)")
    static void promise34_oneselfIsNobody() {
        // if 0 pays 1, 30 goes to 1, and 0 names 0 in the second year; else 1 names 50
        NamedCoins x = told("person 0 0 pays 1;person 5 0;coin 30 0;minting 2;names 10*need;spends 1;");
        int oneself = seedWhere(n -> n[0] % 6 == 2 && n[1] % 2 == 0 && n[2] % 2 == 0 && n[3] % 6 > 2);
        due("nobody", x.ages(oneself, 2, 2), 80);
        int like = seedWhere(n -> n[0] % 6 == 2 && n[1] % 2 == 0 && n[2] % 2 == 1 && n[3] % 6 > 2);
        due("1, as it is", x.ages(like, 2, 2), 30);
        // if 1 pays 0, too, 30 goes on to 0 in the second year, behind the minting
        int other = seedWhere(n -> n[0] % 6 == 2 && n[1] % 2 == 1 && n[2] % 2 == 0 && n[3] % 6 > 2);
        due("1 pays 0", x.ages(other, 2, 2), 30);
        // 1 pays 0 and 30 goes on in the first year, so that 1 names 50 in the second; if 1 pays nobody, 0 names 0
        NamedCoins y = told("person 0 0;person 5 0 pays 0;coin 30 1;minting 2;names 10*need;spends 1;");
        int last = seedWhere(n -> n[0] % 6 == 2 && n[1] % 2 == 1 && n[2] % 2 == 1 && n[3] % 6 > 2);
        due("1 pays 1: nobody", y.ages(last, 2, 2), 30);
        due("1 pays 0 as ever", y.ages(seedWhere(n -> n[0] % 6 > 2 && n[1] % 6 > 2), 2, 2), 80);
        due("nothing else is drawn", x.ages(seedWhere(n -> n[0] % 6 > 2 && n[1] % 6 > 2), 2, 2), 30);
    }

    @Says("A seed becomes itself times 1103515245 and 12345 (an int that wraps); a DRAW of n is its bits 16 to 30 MOD n then.")
    static void promise34_seedsThatWrap() {
        NamedCoins x = told("person 5 0;minting 1;");
        int[] seeds = {0, -1, 1, LEAST, MOST, LEAST + 1, MOST - 1, 0x7fff0000, 0x80000000, 0xffff0000, 123456789};
        for (int seed : seeds) {
            due("seed " + seed, x.ages(seed, 1, 2), isFalseBy(seed) ? 49 : 50);
        }
        for (int seed = LEAST; seed < LEAST + 300; seed++) {
            due("seed " + seed, x.ages(seed, 1, 2), isFalseBy(seed) ? 49 : 50);
        }
    }

    /** Of one person without a stocking: whether one is drawn for the first year. */
    private static boolean isFalseBy(int seed) {
        int[] numbers = drawn(seed, 3);
        return numbers[0] % 6 == 1 && numbers[2] % 5 != 0;
    }

    @Says("how many COINS are minted in these YEARS; how many CRUMBLE in them; what all HAVE at the end, together")
    static void promise34_onlyWhatIsInTheseYears() {
        NamedCoins x = withCrumbled();
        due("crumbled ahead", x.count(6), 2);
        int calm = seedWhere(n -> n[0] % 6 > 2);
        due("minted in one", x.ages(calm, 1, 0), 1);
        due("the new one, 2, doesn't crumble", x.ages(calm, 1, 1), 0);
        due("7 and 1", x.ages(calm, 1, 2), 8);
        String before = portrait(x) + status(x);
        x.ages(5, 60, 1);
        Check.same("nothing changes", portrait(x) + status(x), before);
    }
}
