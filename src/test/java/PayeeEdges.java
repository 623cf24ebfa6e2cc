/** Edges of where money goes by paying (promises 21 and 22, and the counts 8 to 10 of promise 5). */
final class PayeeEdges extends Edges {
    /** Each pays the next one; the last one pays whom the ending tells. */
    private static String row(int people, String ending) {
        StringBuilder text = new StringBuilder();
        for (int person = 0; person < people; person++) {
            text.append("person 0 0").append(person < people - 1 ? " pays " + (person + 1) : ending).append(';');
        }
        return text.toString();
    }

    @Says("RINGS: who comes back to oneself so (bits).")
    static void promise05_rings() {
        due("no people", new NamedCoins().count(8), 0);
        due("a row of eight", told(row(8, "")).count(8), 0);
        due("a ring of eight", told(row(8, " pays 0")).count(8), 255);
        due("only the last two", told(row(8, " pays 6")).count(8), 192);
        due("two", told(row(2, " pays 0")).count(8), 3);
        due("one alone", told("person 0 0;").count(8), 0);
    }

    @Says("SINK: PEOPLE who PAY nobody, and whom somebody PAYS (bits).")
    static void promise05_sinks() {
        due("no people", new NamedCoins().count(9), 0);
        due("who is paid by nobody is none", told("person 0 0;person 0 0;").count(9), 0);
        due("the last of eight", told(row(8, "")).count(9), 128);
        due("a ring has none", told(row(8, " pays 0")).count(9), 0);
        due("paid by two, once", told("person 0 0;person 0 0 pays 0;person 0 0 pays 0;").count(9), 1);
    }

    @Says("PARTS: how many there are of PEOPLE held together by PAYING, one way or the other.")
    static void promise05_parts() {
        due("no people", new NamedCoins().count(10), 0);
        due("one alone", told("person 0 0;").count(10), 1);
        due("eight alone", told("person 0 0;".repeat(8)).count(10), 8);
        due("a row of eight", told(row(8, "")).count(10), 1);
        due("four of two", told("person 0 0 pays 1;person 0 0;person 0 0 pays 3;person 0 0;person 0 0 pays 5;person 0 0;"
                + "person 0 0 pays 7;person 0 0;").count(10), 4);
        due("held together by whom both pay",
                told("person 0 0 pays 2;person 0 0 pays 2;person 0 0;person 0 0;").count(10), 2);
        due("the other way round", told("person 0 0;person 0 0 pays 0;person 0 0 pays 1;person 0 0 pays 2;"
                + "person 0 0 pays 3;person 0 0 pays 4;person 0 0 pays 5;person 0 0 pays 6;").count(10), 1);
        due("to and fro", told("person 0 0 pays 7;person 0 0 pays 6;person 0 0 pays 5;person 0 0 pays 7;"
                + "person 0 0 pays 6;person 0 0 pays 6;person 0 0 pays 7;person 0 0;").count(10), 1);
    }

    @Says("COMES TO: to whom money comes from one by PAYING, on and on (bits; oneself only by a RING).")
    static void promise21_oneselfOnlyByARing() {
        NamedCoins x = told("person 0 0 pays 1;person 0 0 pays 2;person 0 0 pays 1;person 0 0;");
        due("into a ring", x.comesTo(0), 6);
        due("in a ring", x.comesTo(1), 6);
        due("nobody", x.comesTo(3), 0);
        due("all of a ring of eight", told(row(8, " pays 0")).comesTo(5), 255);
    }

    @Says("COMES TO: to whom money comes from one by PAYING, on and on (bits; oneself only by a RING).")
    static void promise21_allAlongARowOfEight() {
        NamedCoins x = told(row(8, ""));
        due("from the first", x.comesTo(0), 254);
        due("from the last but one", x.comesTo(6), 128);
        due("from the last", x.comesTo(7), 0);
        due("to a ring at the end", told(row(8, " pays 6")).comesTo(0), 254);
    }

    @Says("no such PERSON (as everywhere)")
    static void promise21_noSuchPerson() {
        NamedCoins x = told(PAIR);
        noSuch(x, "2", () -> x.comesTo(2));
        noSuch(x, "-1", () -> x.comesTo(-1));
        noSuch(x, "the least", () -> x.comesTo(LEAST));
        noSuch(x, "the most", () -> x.comesTo(MOST));
    }

    @Says("by how many steps of PAYING it comes from one to another one (0 to oneself); none.")
    static void promise22_toOneself() {
        due("alone", told("person 0 0;").steps(0, 0), 0);
        due("in a ring", told(row(8, " pays 0")).steps(3, 3), 0);
    }

    @Says("by how many steps of PAYING it comes from one to another one (0 to oneself); none.")
    static void promise22_sevenStepsAreTheMost() {
        due("along a row", told(row(8, "")).steps(0, 7), 7);
        due("round a ring", told(row(8, " pays 0")).steps(3, 2), 7);
        due("1", told(row(8, "")).steps(6, 7), 1);
    }

    @Says("LATER; NONE: none.")
    static void promise22_none() {
        due("back", told(row(8, "")).steps(7, 0), NONE);
        due("out of a ring", told(row(8, " pays 6")).steps(7, 0), NONE);
        due("who pays nobody", told(PAIR).steps(0, 1), NONE);
    }

    @Says("no such PERSON (as everywhere)")
    static void promise22_noSuchPerson() {
        NamedCoins x = told(PAIR);
        noSuch(x, "2", () -> x.steps(2, 0));
        noSuch(x, "-1", () -> x.steps(-1, 0));
        noSuch(x, "to 2", () -> x.steps(0, 2));
        noSuch(x, "to NONE", () -> x.steps(0, NONE));
        noSuch(x, "2 to 2", () -> x.steps(2, 2));
        noSuch(x, "the least and the most", () -> x.steps(LEAST, MOST));
    }
}
