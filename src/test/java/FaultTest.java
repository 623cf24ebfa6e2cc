/** The text of a mint: what is a fault, which one, and where (promises 3 and 4, and the terms of a TEXT). */
public final class FaultTest {
    public static void main(String[] args) {
        lines();
        numbers();
        people();
        coins();
        seconds();
        expressions();
        depths();
        tokens();
        Check.end("FaultTest");
    }

    private static void fault(String text, int number, int place) {
        NamedCoins mint = new NamedCoins();
        Check.due("mint of " + text, Check.tell(mint, text), number);
        Check.due("place in " + text, mint.fault(), place);
        Check.due("refused " + text, mint.count(14), 1);
        Check.due("tape behind " + text, mint.count(13), 0);
    }

    private static void fine(String text) {
        NamedCoins mint = new NamedCoins();
        Check.due("mint of " + text, Check.tell(mint, text), 0);
        Check.due("place in " + text, mint.fault(), -1);
        Check.due("refused " + text, mint.count(14), 0);
    }

    private static void lines() {
        fine("");
        fine(" \n ");
        fine("person 1 2;");
        fine("person1 2;");
        fine("person1 2pays1;");
        fine("\nperson\n1 2 ; ");
        fault("x", 1, 0);
        fault(";", 1, 0);
        fault("12345", 1, 0);
        fault("persons 1 2;", 1, 0);
        fault("perso", 1, 0);
        fault("berson 1 2;", 1, 0);
        fault("mames 1;", 1, 0);
        fault("pays 1;", 1, 0);
        fault("not 1;", 1, 0);
        fault("person", 1, 6);
        fault("person;", 1, 6);
        fault("person 1;", 1, 8);
        fault("person 1 2", 1, 10);
        fault("person 1 2  ", 1, 12);
        fault("person 1 2;person", 1, 17);
        fault("person 1 2;;", 1, 11);
        fault("person 1 2 gives 1;", 1, 11);
        fault("person 1 2 3;", 1, 11);
        fault("person 1 2 12345;", 1, 11);
        fault("person 1 2 pays ;", 1, 16);
        fault("person 1 2 pays 1 pays 1;", 1, 18);
        fault("person need 2;", 1, 7);
        fault("person -1 2;", 1, 7);
        fault("coin 5;", 1, 6);
        fault("minting;", 1, 7);
        fault("minting 3 3;", 1, 10);
        fault("minting 2+1;", 1, 9);
    }

    private static void numbers() {
        fault("person 10 0;", 2, 7);
        fault("person 1 31;", 2, 9);
        fault("person 12345 0;", 2, 7);
        fault("person 00001 0;", 2, 7);
        fault("person 1 99999999999999999999;", 2, 9);
        fine("person 0009 0030;");
        fine("person 9 30;");
        fault("minting 0;", 2, 8);
        fault("minting 10;", 2, 8);
        fault("minting 00009;", 2, 8);
        fine("minting 09;");
        fine("minting 1;");
    }

    private static void people() {
        fine("person 1 2 pays 7;");
        fault("person 1 2 pays 8;", 2, 16);
        fault("person 1 2 pays 00001;", 2, 16);
        fault("person 1 2 pays 0;", 4, 16);
        fault("person 1 2;beggar 1 2 pays 1;", 4, 27);
        fine("person 1 2;beggar 1 2 pays 0;");
        String eight = "person 1 1;".repeat(8);
        fine(eight);
        fault(eight + "person 1 1;", 2, 88);
        fault(eight + "beggar", 2, 88);
        fault(eight + "beggars", 1, 88);
    }

    private static void coins() {
        fault("coin 5 0;", 3, 7);
        fault("coin 5 0;person 1 1;", 3, 7);
        fault("coin 100 0;", 2, 5);
        fault("person 1 1;coin 5 1;", 3, 18);
        fault("person 1 1;coin 5 9999;", 3, 18);
        fault("person 1 1;coin 5 10000;", 2, 18);
        fault("person 1 1;coin 100 0;", 2, 16);
        fine("person 1 1;coin 99 0;");
        fine("person 1 1;coin 0099 0000;");
        String twelve = "person 1 1;" + "coin 1 0;".repeat(12);
        fine(twelve);
        fault(twelve + "coin", 2, 119);
    }

    private static void seconds() {
        fault("minting 4;minting 5;", 5, 10);
        fault("minting 4;minting", 5, 10);
        fault("names 1;names 2;", 5, 8);
        fault("spends 1;person 1 1;spends 2;", 5, 20);
        fine("names 1;spends 1;minting 1;");
    }

    private static void expressions() {
        fault("names ;", 1, 6);
        fault("names", 1, 5);
        fault("names 1", 1, 7);
        fault("names 1+", 1, 8);
        fault("names 1 2;", 1, 8);
        fault("names 1 need;", 1, 8);
        fault("names 1 foo;", 1, 8);
        fault("names 1 12345;", 1, 8);
        fault("names 1 not 2;", 1, 8);
        fault("names 12345;", 2, 6);
        fault("names 1+12345;", 2, 8);
        fine("names 9999;");
        fault("names foo;", 3, 6);
        fault("names z;", 3, 6);
        fault("names a;", 3, 6);
        fault("names 1 and foo and 2;", 3, 12);
        fault("names `;", 1, 6);
        fault("names {;", 1, 6);
        fault("names worth;", 3, 6);
        fault("names theirs;", 3, 6);
        fault("names or;", 3, 6);
        fault("names person;", 3, 6);
        fault("names 1+not 2;", 3, 8);
        fault("names 1<not 2;", 3, 8);
        fault("names 1*(foo);", 3, 9);
        fine("names need+has+coins+year+stocking;");
        fault("spends stocking;", 3, 7);
        fine("spends need+has+coins+year+worth+theirs;");
        fault("names not;", 1, 9);
        fault("names 1<2<3;", 1, 9);
        fault("names 1=2<3;", 1, 9);
        fine("names (1<2)<3;");
        fine("names 1<2 and 3=4 or not 5<6 and not not 7;");
        fault("names (1;", 1, 8);
        fault("names (1", 1, 8);
        fault("names (1));", 1, 9);
        fault("names 1);", 1, 7);
        fault("names ();", 1, 7);
        fault("names -1;", 1, 6);
        fault("names 1;;", 1, 8);
        fault("names 1 and;", 1, 11);
        fault("names 1 and or 2;", 3, 12);
        fine("names 1 or not 2;");
    }

    private static void depths() {
        fine("names not not not not not not 1;");
        fault("names not not not not not not not 1;", 2, 30);
        fault("names 1 or not not not not not not not 1;", 2, 35);
        fine("names not not not not not not(not not not not not not 1);");
        fault("names not not not not not not foo;", 3, 30);
        fine("names(((((1)))));");
        fine("names(((((1)))))+(((((1)))));");
        fault("names((((((1))))));", 2, 11);
        fault("names(((((1)))))+((((((1))))));", 2, 23);
        fault("names(((((((1)))))));", 2, 11);
        fault("names((((((foo", 2, 11);
        fault("names((((((not", 2, 11);
        fault("names((((((or", 2, 11);
        fault("names((((((12345", 2, 11);
        fault("names((((((;", 1, 11);
        fault("names((((((+1", 1, 11);
        fault("names((((((", 1, 11);
        fault("names((((((  ", 1, 13);
        fault("names((((((!", 1, 11);
        fault("names(((((1", 1, 11);
    }

    private static void tokens() {
        fault("PERSON 1 2;", 1, 0);
        fault("person 1\t2;", 1, 8);
        fault("person 1\r2;", 1, 8);
        fault("names 1!2;", 1, 7);
        fault("names 1+!;", 1, 8);
        fault("names 1>2;", 1, 7);
        fault("person 1 2;" + (char) 233, 1, 11);
        fault("person 1 2;" + (char) 0, 1, 11);
        fault("pers on 1 2;", 1, 0);
        fault("person 1 2 5pays 1;", 1, 11);
        fine("names1<2and3<4;spends not0or1;");
        fault("names notneed;", 3, 6);
    }
}
