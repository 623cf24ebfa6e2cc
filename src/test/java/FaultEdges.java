/** Edges of the faults of a text: what can still stand, and what is too much (promise 3, the places by promise 4). */
final class FaultEdges extends Edges {
    private static final String ONE = "person 1 1;";

    @Says("the first TOKEN of the 9th PERSON")
    static void promise03_eightPeopleAndTheNinth() {
        String eight = ONE.repeat(8);
        fine(eight);
        fault(eight + ONE, 2, 88);
        fault(eight + "beggar 1 1;", 2, 88);
        fault(eight + "beggar", 2, 88);
        fine(ONE.repeat(7) + "beggar 1 1;");
    }

    @Says("the 13th COIN")
    static void promise03_twelveCoinsAndTheThirteenth() {
        String twelve = ONE + "coin 1 0;".repeat(12);
        fine(twelve);
        fault(twelve + "coin 1 0;", 2, 119);
        fault(twelve + "coin", 2, 119);
        due("the twelfth", told(twelve).coin(11, 0), 1);
    }

    @Says("NEED (0 to 9)")
    static void promise03_needs() {
        due("least", told("person 0 1;").person(0, 0), 0);
        due("most", told("person 9 1;").person(0, 0), 9);
        fault("person 10 1;", 2, 7);
        fault("person 9999 1;", 2, 7);
    }

    @Says("a STOCKING (0 to 30)")
    static void promise03_stockings() {
        due("least", told("person 1 0;").person(0, 1), 0);
        due("most", told("person 1 30;").person(0, 1), 30);
        fault("person 1 31;", 2, 9);
        fault("beggar 1 9999;", 2, 9);
    }

    @Says("WORTH (0 to 99; 0: a GIFT)")
    static void promise03_worths() {
        NamedCoins x = told(ONE + "coin 0 0;coin 99 0;");
        due("least", x.coin(0, 0), 0);
        due("most", x.coin(1, 0), 99);
        due("0 is a gift", x.count(7), 1);
        fault(ONE + "coin 100 0;", 2, 16);
    }

    @Says("A MINTING every so many YEARS (1 to 9; 4 without)")
    static void promise03_mintings() {
        due("least", told("minting 1;").count(3), 1);
        due("most", told("minting 9;").count(3), 9);
        due("without", told(ONE).count(3), 4);
        fault("minting 0;", 2, 8);
        fault("minting 10;", 2, 8);
    }

    @Says("(a PERSON one PAYS: to 7)")
    static void promise03_whomOnePays() {
        due("0", told(ONE + "person 1 1 pays 0;").person(1, 2), 0);
        due("7", told("person 1 1 pays 7;" + ONE.repeat(7)).person(0, 2), 7);
        fault("person 1 1 pays 8;", 2, 16);
        fault("person 1 1 pays 9999;", 2, 16);
    }

    @Says("a NUMBER of 5 digits or more")
    static void promise03_numbersOfFiveDigits() {
        fault("person 00001 1;", 2, 7);
        fault("person 1 00001;", 2, 9);
        fault("person 1 1 pays 00001;", 2, 16);
        fault(ONE + "coin 00001 0;", 2, 16);
        fault(ONE + "coin 1 00000;", 2, 18);
        fault("minting 00001;", 2, 8);
        fault("names 00001;", 2, 6);
        fault("spends 1+00001;", 2, 9);
        fault("names " + "9".repeat(600) + ";", 2, 6);
    }

    @Says("or (not in an EXPR) not as told")
    static void promise03_inAnExprANumberMayBe9999() {
        fine("names 9999;");
        fine("spends 9999;");
        fault("names 10000;", 2, 6);
    }

    @Says("of an EXPR within 6 others (a NUMBER, any word, a parenthesis)")
    static void promise03_anExprWithin5Others() {
        fine("names(((((1)))));");
        fine("spends(((((not need)))));");
        due("is worth what it says", named("(((((42)))))"), 42);
    }

    @Says("of an EXPR within 6 others (a NUMBER, any word, a parenthesis)")
    static void promise03_anExprWithin6Others() {
        fault("names((((((1))))));", 2, 11);
        fault("names((((((need))))));", 2, 11);
        fault("names(((((((1)))))));", 2, 11);
        fault("spends((((((not 1))))));", 2, 12);
        fault("names((((((or", 2, 11);
        fault("names(((((1+(2", 2, 13);
    }

    @Says("of an EXPR within 6 others (a NUMBER, any word, a parenthesis)")
    static void promise03_whatCantStartAnExprWithin6OthersCantStand() {
        fault("names((((((+1", 1, 11);
        fault("names((((((;", 1, 11);
        fault("names(((((())))));", 1, 11);
        fault("names((((((!", 1, 11);
        fault("names((((((", 1, 11);
    }

    @Says("of an EXPR within 6 others (a NUMBER, any word, a parenthesis)")
    static void promise03_exprsSideBySideAreNotWithinOneAnother() {
        fine("names(((((1)))))+(((((1)))))*(((((1)))));");
        fine("names(1)+(1)+(1)+(1)+(1)+(1)+(1)+(1);");
        fault("names(((((1)))))+((((((1))))));", 2, 23);
    }

    @Says("the seventh 'not' side by side")
    static void promise03_sixNotsAndTheSeventh() {
        fine("names not not not not not not 1;");
        due("six of them turn 5 to 1", named("not not not not not not 5"), 1);
        due("five of them turn 5 to 0", named("not not not not not 5"), 0);
        fault("names not not not not not not not 1;", 2, 30);
        fault("spends not not not not not not not", 2, 31);
    }

    @Says("the seventh 'not' side by side")
    static void promise03_notsThatAreNotSideBySide() {
        fine("names not not not not(not not not not 1);");
        fine("names not not not not not not 1 and not not not not not not 1;");
        fine("names not not not not not not 1 or not not not not not not 1;");
        fault("names 1 or not not not not not not not 1;", 2, 35);
    }

    @Says("3 any word where a PART must stand that is no VALUE of this EXPR")
    static void promise03_valuesOfTheOtherRule() {
        fine("names need+has+coins+year+stocking;");
        fault("names worth;", 3, 6);
        fault("names theirs;", 3, 6);
        fine("spends need+has+coins+year+worth+theirs;");
        fault("spends stocking;", 3, 7);
    }

    @Says("3 any word where a PART must stand that is no VALUE of this EXPR")
    static void promise03_anyWordWhereAPartMustStand() {
        fault("names foo;", 3, 6);
        fault("names or 1;", 3, 6);
        fault("names 1 and or 1;", 3, 12);
        fault("names 1 and foo;", 3, 12);
        fault("names 1 or foo;", 3, 11);
        fault("names not foo;", 3, 10);
        fault("names 1-foo;", 3, 8);
        fault("names 1=foo;", 3, 8);
        fault("names 1/foo;", 3, 8);
        fault("names 1+not 1;", 3, 8);
        fault("names 1<not 1;", 3, 8);
        fault("names 1*person 1 1;", 3, 8);
        fault("names (pays", 3, 7);
    }

    @Says("1 a TOKEN that can't stand there, or is none")
    static void promise03_aWordWhereNoPartMustStand() {
        fault("names 1 foo;", 1, 8);
        fault("names 1 need;", 1, 8);
        fault("names 1 not 1;", 1, 8);
        fault("person 1 need;", 1, 9);
        fault("person 1 1 foo;", 1, 11);
        fault("names 1;foo;", 1, 8);
    }

    @Says("NOT: 'not' NOT | SUM [('<' | '=') SUM]")
    static void promise03_oneTestASum() {
        fine("names 1<2;");
        fault("names 1<2<3;", 1, 9);
        fault("names 1=2=3;", 1, 9);
        fault("names 1<2=3;", 1, 9);
        fine("names (1<2)=(2<3);");
    }

    @Says("PART: NUMBER | VALUE | '(' EXPR ')'")
    static void promise03_emptyAndUnevenParentheses() {
        fault("names ();", 1, 7);
        fault("names (1;", 1, 8);
        fault("names 1);", 1, 7);
        fault("names ;", 1, 6);
        fault("names -1;", 1, 6);
        fault("names 1--1;", 1, 8);
    }

    @Says("the PERSON of a COIN, if that one isn't told ahead")
    static void promise03_aCoinOfNobodyToldAhead() {
        fault("coin 1 0;", 3, 7);
        fault("coin 1 0;" + ONE, 3, 7);
        fault(ONE + "coin 1 1;" + ONE, 3, 18);
        fault(ONE.repeat(8) + "coin 1 8;", 3, 95);
        fault(ONE + "coin 1 9999;", 3, 18);
        due("the last one told", told(ONE.repeat(8) + "coin 1 7;").coin(0, 1), 7);
    }

    @Says("4 the PERSON behind 'pays', if it is oneself")
    static void promise03_oneselfIsNotPaid() {
        fault("person 1 1 pays 0;", 4, 16);
        fault(ONE.repeat(7) + "beggar 1 1 pays 7;", 4, 93);
        fault(ONE + "person 1 1 pays 0001;", 4, 27);
        fine(ONE + "person 1 1 pays 0;");
    }

    @Says("5 a second 'minting', 'names', 'spends'")
    static void promise03_aSecondOne() {
        fault("minting 4;minting 4;", 5, 10);
        fault("names 0;names 0;", 5, 8);
        fault("spends 0;" + ONE + "spends 0;", 5, 20);
        fault("names 0;names", 5, 8);
        fine("minting 4;names 0;spends 0;");
    }

    @Says("of one TOKEN the least")
    static void promise03_ofOneTokenTheLeastFault() {
        fault("names((((((foo", 2, 11);
        fault("names((((((12345", 2, 11);
        fault("coin 1 12345;", 2, 7);
        fault("person 1 1 pays 00000;", 2, 16);
        fault("person 1 1 12345;", 1, 11);
        fault("names 1 12345;", 1, 8);
    }

    @Says("FAULTS, the first along the text")
    static void promise03_theFirstAlongTheText() {
        fault("person 10 31;!", 2, 7);
        fault("coin 100 0;", 2, 5);
        fault("names foo+12345;", 3, 6);
        fault("names 12345+foo;", 2, 6);
        fault("minting 0;minting 0;", 2, 8);
        fault(";;!", 1, 0);
        fault("person 1 1 coin 1 0;!", 1, 11);
        fault("names(1 minting 0;", 1, 8);
    }

    @Says("1 a TOKEN that can't stand there, or is none (the text's length where it ends too soon)")
    static void promise03_aTextThatEndsTooSoonAnywhere() {
        String text = "person 1 2 pays 1;beggar 3 4;coin 5 0;minting 6;names(1<2);spends not 7;";
        for (int length = 1; length <= text.length(); length++) {
            String cut = text.substring(0, length);
            boolean isWordCut = length < text.length() && isLetter(cut, length - 1) && isLetter(text, length);
            boolean isPartCut = cut.endsWith("spends n") || cut.endsWith("spends no");
            if (cut.endsWith(";")) {
                fine(cut);
            } else if (isPartCut) {
                fault(cut, 3, wordAt(cut));
            } else {
                fault(cut, 1, isWordCut ? wordAt(cut) : length);
            }
        }
    }

    private static boolean isLetter(String text, int at) {
        return text.charAt(at) >= 'a' && text.charAt(at) <= 'z';
    }

    private static int wordAt(String text) {
        int at = text.length();
        while (at > 0 && isLetter(text, at - 1)) {
            at--;
        }
        return at;
    }

    @Says("LINE: (('person' | 'beggar') NEED STOCKING ['pays' PERSON]")
    static void promise03_aLineHasNoMore() {
        fault("person 1 1 1;", 1, 11);
        fault("person 1 1 pays 1 1;", 1, 18);
        fault("person 1 1 pays 1 pays 1;", 1, 18);
        fault(ONE + "coin 1 0 0;", 1, 20);
        fault("minting 1 1;", 1, 10);
        fault(ONE + ";", 1, 11);
        fault("person -1 1;", 1, 7);
    }
}
