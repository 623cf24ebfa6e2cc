/** Edges of the tape and of what a text is taken for (promises 2 to 4). */
final class TextEdges extends Edges {
    private static String padded(String text, int length) {
        return text + " ".repeat(length - text.length());
    }

    private static NamedCoins fed(String text) {
        NamedCoins x = new NamedCoins();
        Check.feedText(x, text);
        return x;
    }

    @Says("how many it has")
    static void promise02_thirtyFiveFeedsFillTheTape() {
        NamedCoins x = new NamedCoins();
        for (int i = 1; i <= 35; i++) {
            due("feed " + i, x.feed(0, 0, 0, 0, 0), 20 * i);
            due("count behind feed " + i, x.count(13), 20 * i);
        }
    }

    @Says("NONE, and none come, if it would have more than 700")
    static void promise02_aFeedBehind700BytesIsRefused() {
        NamedCoins x = fed(padded("person 1 2;", 700));
        due("bytes", x.count(13), 700);
        due("more", x.feed(-1, -1, -1, -1, -1), NONE);
        due("bytes behind it", x.count(13), 700);
        due("once more", x.feed(-1, -1, -1, -1, -1), NONE);
        due("the text is as it was", x.mint(700), 0);
        due("need", x.person(0, 0), 1);
    }

    @Says("STATUS: how many calls were refused: 0 TEXTS with a FAULT, 1 ACTS, 2 what is SEEN.")
    static void promise02_aRefusedFeedIsNoStatus() {
        NamedCoins x = fed(" ".repeat(700));
        x.feed(0, 0, 0, 0, 0);
        Check.same("STATUS", status(x), "0 0 0");
    }

    @Says("of each number the highest first")
    static void promise02_theHighestByteOfEachNumberComesFirst() {
        NamedCoins x = new NamedCoins();
        x.feed(0x636f696e, 0x73212020, 0x20202020, 0x20202020, 0x20202020);
        x.mint(20);
        due("'coins!' is a word of five letters that can't stand", x.fault(), 0);
        x.feed(0x20202020, 0x20202020, 0x20202020, 0x20202020, 0x20202021);
        x.mint(20);
        due("the lowest byte of the last number is the last one", x.fault(), 19);
        x.feed(0x20202020, 0x20202020, 0x20202020, 0x20202020, 0x21202020);
        x.mint(20);
        due("its highest one is the seventeenth", x.fault(), 16);
    }

    @Says("of each number the highest first")
    static void promise02_aByteAbove127IsOneByte() {
        NamedCoins x = new NamedCoins();
        x.feed(0x20202020, 0x20e92020, 0xffffffff, LEAST, MOST);
        due("tape", x.count(13), 20);
        due("no token", x.mint(20), 1);
        due("place", x.fault(), 5);
    }

    @Says("Twenty bytes come behind the tape")
    static void promise02_bytesComeBehindThoseThatAreThere() {
        NamedCoins x = fed(padded("person 7 30;", 20));
        Check.feedText(x, padded("coin 99 0;", 20));
        due("both", x.mint(40), 0);
        due("stocking", x.person(0, 1), 30);
        due("worth", x.coin(0, 0), 99);
    }

    @Says("(it is empty then)")
    static void promise02_behindMintTheTapeStartsAnew() {
        NamedCoins x = fed(padded("person 7 30;", 700));
        x.mint(12);
        due("bytes", x.count(13), 0);
        due("first feed", x.feed(0x636f696e, 0x20352030, 0x3b202020, 0x20202020, 0x20202020), 20);
        due("the earlier bytes are gone: no person told", x.mint(20), 3);
    }

    @Says("n below 0 (nothing changes)")
    static void promise03_nBelow0() {
        NamedCoins x = told(PAIR);
        Check.feedText(x, "person 9 9;");
        illegal(x, "-1", () -> x.mint(-1));
        illegal(x, "the least", () -> x.mint(LEAST));
        due("the tape is as it was", x.mint(11), 0);
        due("need", x.person(0, 0), 9);
    }

    @Says("IllegalArgumentException: the tape has not so many")
    static void promise03_moreThanTheTapeHas() {
        NamedCoins x = told(PAIR);
        illegal(x, "1 of none", () -> x.mint(1));
        Check.feedText(x, "person 9 9;");
        illegal(x, "21 of 20", () -> x.mint(21));
        illegal(x, "700 of 20", () -> x.mint(700));
        illegal(x, "the most", () -> x.mint(MOST));
        due("the tape is as it was", x.mint(20), 0);
        due("need", x.person(0, 0), 9);
    }

    @Says("The tape's first n bytes")
    static void promise03_asManyAsTheTapeHas() {
        NamedCoins x = fed("person 1 2;person 3;");
        due("the last of 20 bytes is read, too", x.mint(20), 1);
        due("place", x.fault(), 19);
    }

    @Says("MINT: LINE*.")
    static void promise03_anEmptyTextIsNobody() {
        NamedCoins x = told(PAIR);
        due("none of none", x.mint(0), 0);
        due("people", x.count(0), 0);
        due("coins", x.count(1), 0);
        due("usual minting", x.count(3), 4);
        due("fault", x.fault(), NONE);
    }

    @Says("The tape's first n bytes (it is empty then)")
    static void promise03_noneOfATapeEmptiesIt() {
        NamedCoins x = fed("person 1 2;");
        due("none of 20", x.mint(0), 0);
        due("people", x.count(0), 0);
        due("bytes", x.count(13), 0);
    }

    @Says("The tape's first n bytes (it is empty then)")
    static void promise03_bytesBehindTheFirstOnesCountForNothing() {
        NamedCoins x = fed("person 1 2;!!!!");
        due("the first 11", x.mint(11), 0);
        due("people", x.count(0), 1);
        due("bytes", x.count(13), 0);
    }

    @Says("The tape's first n bytes")
    static void promise03_aTokenEndsWithTheText() {
        NamedCoins word = fed("person 1 2;coins");
        due("'coin' of 'coins'", word.mint(15), 1);
        due("it can stand, a number is missing", word.fault(), 15);
        NamedCoins number = fed("names 12345");
        due("'1234' of '12345'", number.mint(10), 1);
        due("it is not too much, the end is too soon", number.fault(), 10);
    }

    @Says("A TEXT of at most 700 bytes tells it.")
    static void promise03_aTextOf700Bytes() {
        String text = "person 0 0;minting 1;names " + "0+".repeat(333) + "00042;";
        due("length", text.length(), 699);
        NamedCoins five = new NamedCoins();
        due("00042 is a number of 5 digits", Check.tell(five, text), 2);
        due("place", five.fault(), 693);
        String whole = "person 0 0;minting 1;names " + "0+".repeat(333) + " 0042;\n";
        due("length", whole.length(), 700);
        due("the rule's last number", after(1, whole).coin(0, 0), 42);
    }

    @Says("* any number of times")
    static void promise03_anyNumberOfTimesUpTo700Bytes() {
        String[] joins = {" or ", " and ", "+", "-", "*", "/"};
        int[] named = {1, 1, 99, 0, 1, 1};
        for (int i = 0; i < joins.length; i++) {
            String start = "person 0 0;minting 1;names 1";
            int many = (700 - start.length() - 1) / (joins[i].length() + 1);
            due(many + " times" + joins[i], after(1, start + (joins[i] + "1").repeat(many) + ";").coin(0, 0), named[i]);
        }
        fine("names (1)" + "+(1)".repeat(170) + ";");
    }

    @Says("blanks (32, 10) between them count for nothing")
    static void promise03_blanksAlone() {
        fine(" ");
        fine("\n");
        fine(" \n".repeat(350));
    }

    @Says("blanks (32, 10) between them count for nothing")
    static void promise03_onlyTwoBytesAreBlanks() {
        for (int sign = 0; sign < 256; sign++) {
            String text = "person" + (char) sign + "1 2;";
            boolean isBlank = sign == 32 || sign == 10;
            boolean isLetter = sign >= 'a' && sign <= 'z';
            boolean isDigit = sign >= '0' && sign <= '9';
            if (isBlank) {
                fine(text);
            } else if (isLetter) {
                fault(text, 1, 0);
            } else if (isDigit && sign != '0') {
                fault(text, 2, 6);
            } else if (isDigit) {
                fine(text);
            } else {
                fault(text, 1, 6);
            }
        }
    }

    @Says("blanks (32, 10) between them count for nothing")
    static void promise03_blanksAreNotNeededBetweenUnlikeTokens() {
        NamedCoins x = told("person1 2pays1;beggar3 4;coin5 0;names1<2and not3=4;minting6;");
        due("pays", x.person(0, 2), 1);
        due("minting", x.count(3), 6);
    }

    @Says("words (a .. z, the longest row)")
    static void promise03_aWordIsTheLongestRow() {
        fault("personperson 1 2;", 1, 0);
        fault("person 1 2 pays1pays;", 1, 16);
        fault("names needs;", 3, 6);
        fault("names nee;", 3, 6);
        fault("names notneed;", 3, 6);
        fault("names a;", 3, 6);
        fault("names z;", 3, 6);
    }

    @Says("In quotes is what stands there")
    static void promise03_eachLetterOfAWordCounts() {
        String[] lines = {"person 1 2;", "beggar 1 2;", "coin 1 0;", "minting 4;", "names 1;", "spends 1;"};
        for (String line : lines) {
            fault("x" + line.substring(1), 1, 0);
            fault(line.replaceFirst("[a-z] ", "x "), 1, 0);
            fault(line.substring(1), 1, 0);
        }
        fault("person 1 2 bays 1;", 1, 11);
        fault("person 1 2 payx 1;", 1, 11);
        fault("names 1 ord 2;", 1, 8);
        fault("names 1 end 2;", 1, 8);
        fault("names nod 1;", 3, 6);
        String[] values = {"need", "has", "coins", "year", "stocking", "worth", "theirs"};
        for (String value : values) {
            String rule = value.equals("worth") || value.equals("theirs") ? "spends " : "names ";
            fine(rule + value + ";");
            fault(rule + "x" + value.substring(1) + ";", 3, rule.length());
            fault(rule + value.substring(0, value.length() - 1) + "x;", 3, rule.length());
        }
    }

    @Says("words (a .. z, the longest row)")
    static void promise03_capitalsAndSignsBesideTheLettersAreNoWords() {
        fault("Person 1 2;", 1, 0);
        fault("names A;", 1, 6);
        fault("names Z;", 1, 6);
        fault("names `;", 1, 6);
        fault("names {;", 1, 6);
        fault("names need_;", 1, 10);
    }

    @Says("NUMBERS (1 to 4 digits)")
    static void promise03_aNumberOfFourDigits() {
        NamedCoins x = told("person 0009 0030;coin 0099 0000;minting 0001;names 0007;");
        due("need", x.person(0, 0), 9);
        due("stocking", x.person(0, 1), 30);
        due("worth", x.coin(0, 0), 99);
        due("minting", x.count(3), 1);
        fault("names /;", 1, 6);
        fault("names :;", 1, 6);
    }

    @Says("all anew: 0")
    static void promise03_rulesAndMintingAreToldAnew() {
        NamedCoins x = told("beggar 9 9;minting 1;names 50;spends 1;");
        due("another text", Check.tell(x, "person 3 0 pays 1;person 9 0;coin 99 1;coin 9 0;"), 0);
        due("minting is 4 without", x.count(3), 4);
        due("no beggar", x.person(0, 6), 0);
        due("without SPENDS 9 is more than half of 9", x.then(1, 3, 0), 0);
        due("without NAMES ten times 3 less 9", x.then(2, 4, 1), 21);
    }

    @Says("all anew: 0")
    static void promise03_whatWasForeseenIsNotOfTheNextText() {
        NamedCoins x = told("person 0 5 pays 1;person 0 0;coin 9 0;minting 1;names 3;");
        x.later(6, 0);
        due("a text of two people alone", Check.tell(x, "person 0 0;person 0 0;minting 2;"), 0);
        due("year", x.count(2), 0);
        due("pays nobody", x.person(0, 2), NONE);
        due("no coins", x.count(1), 0);
        due("none false", x.count(5), 0);
        due("none crumbled", x.count(6), 0);
        due("nobody holds coin 0", x.then(0, 0, 0), NONE);
        due("it is worth nothing", x.then(0, 0, 1), 0);
        due("nobody holds any", x.person(0, 4), 0);
    }

    @Says("MINT: LINE*.")
    static void promise03_linesInAnyOrder() {
        NamedCoins x = after(1, "spends 0-7;names 6;minting 1;person 0 0 pays 1;person 0 0;coin 9 1;");
        due("names", x.coin(1, 0), 6);
        due("spends", x.coin(1, 1), 0);
        NamedCoins y = after(1, "names 6;person 0 0 pays 1;person 0 0;coin 9 1;minting 1;spends 7;");
        due("names first", y.coin(1, 0), 6);
        due("spends last", y.coin(1, 1), 1);
    }

    @Says("ACTS, what is SEEN, the image are gone.")
    static void promise03_actsSightsAndTheImageAreGone() {
        NamedCoins x = told(PAIR);
        x.give(0, 1);
        x.see(0, 0);
        x.image();
        due("another text", Check.tell(x, PAIR), 0);
        due("acts", x.count(11), 0);
        due("nothing to undo", x.undo(), NONE);
        due("seen", x.count(12), 0);
        due("restored", x.restore(), false);
    }

    @Says("ACTS, what is SEEN, the image are gone.")
    static void promise03_statusIsNotGone() {
        NamedCoins x = told(PAIR);
        Check.tell(x, "!");
        x.years(0);
        x.see(0, 21);
        Check.tell(x, PAIR);
        Check.same("STATUS", status(x), "1 1 1");
    }

    @Says("or the FAULT (all stays, but STATUS)")
    static void promise03_behindAFaultAllStays() {
        NamedCoins x = told("person 3 2 pays 1;beggar 5 0;coin 40 0;coin 9 0;minting 3;names 33;spends worth<10;");
        x.years(1);
        x.see(1, 3);
        x.image();
        x.years(4);
        String before = portrait(x).replace("fault -1", "fault 71");
        due("a fault at the very end",
                Check.tell(x, "person 1 1;coin 5 0;minting 1;names 1;spends 1-theirs;beggar 0 0 pays 7"), 1);
        Check.same("what can be asked", portrait(x), before);
        Check.same("STATUS", status(x), "1 0 0");
        due("the act is undone", x.undo(), 1);
        due("year", x.count(2), 1);
        due("the image is there", x.restore(), true);
    }

    @Says("or the FAULT (all stays, but STATUS)")
    static void promise03_eachFaultIsOneMoreRefusedText() {
        NamedCoins x = new NamedCoins();
        for (int i = 1; i <= 9; i++) {
            Check.tell(x, "x");
            due("refused texts", x.count(14), i);
        }
    }

    @Says("(it is empty then)")
    static void promise03_behindAFaultTheTapeIsEmpty() {
        NamedCoins x = fed("x");
        x.mint(1);
        due("bytes", x.count(13), 0);
    }

    @Says("(One may PAY somebody who is told behind; who is never told: nobody.)")
    static void promise03_whomOnePaysMayBeToldBehind() {
        NamedCoins x = told("person 0 0 pays 2;person 0 0 pays 0;person 0 0 pays 7;");
        due("told behind", x.person(0, 2), 2);
        due("told ahead", x.person(1, 2), 0);
        due("never told", x.person(2, 2), NONE);
    }

    @Says("(One may PAY somebody who is told behind; who is never told: nobody.)")
    static void promise03_theNextOneNeverToldIsNobody() {
        due("of one person 1 is nobody", told("person 0 0 pays 1;").person(0, 2), NONE);
        NamedCoins x = told("person 0 0;person 0 0 pays 2;");
        due("of two people 2 is nobody", x.person(1, 2), NONE);
        due("nobody is paid", x.count(9), 0);
    }

    @Says("The place of the latest mint()'s FAULT; NONE without.")
    static void promise04_noneOnANewObject() {
        due("fault", new NamedCoins().fault(), NONE);
    }

    @Says("NONE without.")
    static void promise04_noneBehindATextWithoutFault() {
        NamedCoins x = new NamedCoins();
        Check.tell(x, "person 1 31;");
        due("place", x.fault(), 9);
        x.mint(0);
        due("behind an empty text", x.fault(), NONE);
    }

    @Says("The place of the latest mint()'s FAULT")
    static void promise04_theLatestFault() {
        NamedCoins x = new NamedCoins();
        Check.tell(x, "person 1 31;");
        Check.tell(x, "person 10 31;");
        due("place", x.fault(), 7);
    }

    @Says("IllegalArgumentException: the tape has not so many, n below 0 (nothing changes).")
    static void promise04_staysBehindARefusedN() {
        NamedCoins x = new NamedCoins();
        Check.tell(x, "person 1 31;");
        Check.illegal("1 of none", () -> x.mint(1));
        Check.illegal("-1", () -> x.mint(-1));
        due("place", x.fault(), 9);
    }

    @Says("at a TOKEN's first byte")
    static void promise04_aTokensFirstByte() {
        fault("person", 1, 6);
        fault("   persons 1 2;", 1, 3);
        fault("person 1\n\n  31;", 2, 12);
        fault("names 1+ 12345;", 2, 9);
    }

    @Says("(the text's length where it ends too soon)")
    static void promise04_theTextsLengthWhereItEndsTooSoon() {
        fault("person 1 2", 1, 10);
        fault("person 1 2   \n", 1, 14);
        fault("names(", 1, 6);
        fault("coin ", 1, 5);
    }

    @Says("(the text's length where it ends too soon)")
    static void promise04_at700() {
        fault("names " + "0+".repeat(347), 1, 700);
        fault(padded("person 1 2;", 699) + "!", 1, 699);
    }

    @Says("The place of the latest mint()'s FAULT")
    static void promise04_atTheTextsFirstByte() {
        fault("!", 1, 0);
    }
}
