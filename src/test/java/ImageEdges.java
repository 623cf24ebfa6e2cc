/** Edges of the image (promises 35 and 36). */
final class ImageEdges extends Edges {
    @Says("AN IMAGE is kept, in place of another one.")
    static void promise35_inPlaceOfAnotherOne() {
        NamedCoins x = told(PAIR);
        x.image();
        x.years(1);
        x.image();
        x.years(1);
        due("restored", x.restore(), true);
        due("the later one", x.count(2), 1);
    }

    @Says("AN IMAGE is kept, in place of another one.")
    static void promise35_ofANewObject() {
        NamedCoins x = new NamedCoins();
        x.image();
        x.years(20);
        due("restored", x.restore(), true);
        due("year", x.count(2), 0);
        due("acts", x.count(11), 0);
    }

    @Says("AN IMAGE is kept")
    static void promise35_changesNothing() {
        NamedCoins x = told(FALSE_NAMES);
        x.years(2);
        x.see(0, 3);
        x.years(0);
        String before = portrait(x) + status(x);
        x.image();
        Check.same("what can be asked", portrait(x) + status(x), before);
        due("undone as ever", x.undo(), 0);
    }

    @Says("AN IMAGE keeps all that YEARS and ACTS change, ACTS that are kept, what is SEEN, STATUS.")
    static void promise35_isNoLongerTouchedByWhatComes() {
        NamedCoins x = told("person 1 3 pays 1;person 2 4;coin 9 0;coin 0 1;minting 1;");
        x.anew(0, 7);
        x.see(1, 20);
        x.years(0);
        String before = portrait(x) + status(x);
        x.image();
        x.years(20);
        x.give(1, 0);
        x.search(0);
        x.pays(1, 0);
        x.anew(0, 0);
        x.see(0, 0);
        x.see(0, 21);
        x.years(0);
        Check.tell(x, "!");
        x.restore();
        due("the place of the fault is not of it", x.fault(), 0);
        Check.same("all else", portrait(x).replace("fault 0", "fault -1") + status(x), before);
        due("its act is undone", x.undo(), 0);
        due("to what it was", x.coin(0, 0), 9);
    }

    @Says("AN IMAGE keeps all that YEARS and ACTS change, ACTS that are kept, what is SEEN, STATUS.")
    static void promise35_keepsFortyActs() {
        NamedCoins x = told(PAIR);
        for (int i = 0; i <= 40; i++) {
            x.anew(0, i);
        }
        x.image();
        for (int i = 60; i < 95; i++) {
            x.anew(0, i);
        }
        x.restore();
        due("kept", x.count(11), 40);
        for (int left = 39; left >= 0; left--) {
            due("left", x.undo(), left);
            due("worth with " + left, x.coin(0, 0), left);
        }
        due("none", x.undo(), NONE);
    }

    @Says("False: there is none.")
    static void promise36_thereIsNone() {
        NamedCoins x = new NamedCoins();
        due("new", x.restore(), false);
        Check.tell(x, PAIR);
        x.years(3);
        String before = portrait(x) + status(x);
        due("none", x.restore(), false);
        Check.same("nothing changes", portrait(x) + status(x), before);
    }

    @Says("ACTS, what is SEEN, the image are gone.")
    static void promise36_noneBehindAnotherText() {
        NamedCoins x = told(PAIR);
        x.image();
        x.mint(0);
        due("none", x.restore(), false);
        due("nobody", x.count(0), 0);
    }

    @Says("or the FAULT (all stays, but STATUS)")
    static void promise36_thereIsOneBehindAFault() {
        NamedCoins x = told(PAIR);
        x.image();
        Check.tell(x, "!");
        due("restored", x.restore(), true);
        due("STATUS of the image", x.count(14), 0);
    }

    @Says("It is as the IMAGE again: true.")
    static void promise36_againAndAgain() {
        NamedCoins x = told(PAIR);
        x.image();
        String before = portrait(x) + status(x);
        for (int i = 0; i < 3; i++) {
            x.years(20);
            x.see(0, 0);
            due("restored", x.restore(), true);
            Check.same("as the image", portrait(x) + status(x), before);
        }
        due("at once again", x.restore(), true);
    }

    @Says("It is as the IMAGE again: true.")
    static void promise36_actsBehindItAreGone() {
        NamedCoins x = told(PAIR);
        x.years(1);
        x.image();
        x.undo();
        due("none left", x.count(11), 0);
        x.restore();
        due("one again", x.count(11), 1);
        due("undone", x.undo(), 0);
        due("year", x.count(2), 0);
        due("none", x.undo(), NONE);
    }

    @Says("AN IMAGE keeps all that YEARS and ACTS change, ACTS that are kept, what is SEEN, STATUS.")
    static void promise36_statusGoesDownToTheImages() {
        NamedCoins x = told(PAIR);
        x.years(0);
        x.image();
        x.years(0);
        x.years(0);
        x.see(0, 21);
        Check.same("STATUS", status(x), "0 3 1");
        x.restore();
        Check.same("STATUS of the image", status(x), "0 1 0");
    }

    @Says("AN IMAGE keeps all that YEARS and ACTS change, ACTS that are kept, what is SEEN, STATUS.")
    static void promise36_theTapeIsNotOfIt() {
        NamedCoins x = told(PAIR);
        x.image();
        Check.feedText(x, "person 9 9;");
        x.restore();
        due("bytes", x.count(13), 20);
        due("the text", x.mint(11), 0);
        due("need", x.person(0, 0), 9);
    }

    @Says("AN IMAGE keeps all that YEARS and ACTS change, ACTS that are kept, what is SEEN, STATUS.")
    static void promise36_whatIsSeenComesBack() {
        NamedCoins x = told(PAIR);
        for (int i = 0; i < 8; i++) {
            x.see(1, 0);
        }
        x.image();
        x.forget();
        x.see(0, 0);
        due("not so", x.needy(2), 0);
        x.restore();
        due("seen", x.count(12), 8);
        due("so", x.needy(2), 1);
        due("a ninth", x.see(1, 0), NONE);
    }

    @Says("AN IMAGE keeps all that YEARS and ACTS change, ACTS that are kept, what is SEEN, STATUS.")
    static void promise36_theYearsOfWhatIsSeenComeBack() {
        // 1 is poorest up to 19 years, 0 behind 20
        NamedCoins x = told(GOES_IN_YEAR + "19;");
        x.see(1, 19);
        x.see(0, 20);
        x.image();
        x.forget();
        x.see(1, 20);
        x.see(0, 19);
        due("not so", x.needy(2), 0);
        x.restore();
        due("so", x.needy(2), 1);
    }
}
