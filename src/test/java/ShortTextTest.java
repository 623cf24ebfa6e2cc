/** Every row of up to four tokens behind some beginnings: its fault and the place, against the Model. */
public final class ShortTextTest {
    private static final int MOST_TOKENS = 4;
    /** An object is promised for 512 calls; a text takes three feeds, mint() and fault(). */
    private static final int TEXTS_OF_ONE_OBJECT = 100;
    private static final String[] LINE_TOKENS = {"person", "beggar", "coin", "minting", "names", "spends", "pays", "0", "1",
        "9", "10", "31", "100", "00001", ";", "year", "A"};
    private static final String[] RULE_TOKENS = {"1", "12345", "need", "worth", "stocking", "person", "not", "and", "or", "(",
        ")", "+", "/", "<", "=", ";", "!"};

    private NamedCoins coins = new NamedCoins();
    private Model model = new Model();
    private int texts = 0;
    private int wrong = 0;
    private final int[] found = new int[6];

    public static void main(String[] args) {
        Check.endWithin(300);
        ShortTextTest test = new ShortTextTest();
        test.walk("", LINE_TOKENS, MOST_TOKENS);
        test.walk("person 1 0;beggar 0 0 ", LINE_TOKENS, MOST_TOKENS);
        test.walk("person 9 30 pays 1;minting 9;", LINE_TOKENS, MOST_TOKENS);
        test.walk("names ", RULE_TOKENS, MOST_TOKENS);
        test.walk("spends (((((", RULE_TOKENS, MOST_TOKENS - 1);
        test.walk("spends not not not not not ", RULE_TOKENS, MOST_TOKENS - 1);
        Check.due("short texts whose fault is not the model's", test.wrong, 0);
        for (int fault = 0; fault < test.found.length; fault++) {
            Check.due("texts of fault " + fault + " were met", test.found[fault] > 0, true);
        }
        System.out.println("ShortTextTest: " + test.texts + " texts");
        Check.end("ShortTextTest");
    }

    private void walk(String begun, String[] tokens, int left) {
        ask(begun);
        if (left > 0) {
            for (String token : tokens) {
                walk(begun + token + " ", tokens, left - 1);
            }
        }
    }

    private void ask(String text) {
        if (texts % TEXTS_OF_ONE_OBJECT == 0) {
            coins = new NamedCoins();
            model = new Model();
        }
        texts++;
        for (int[] five : Check.fives(text)) {
            coins.feed(five[0], five[1], five[2], five[3], five[4]);
            model.feed(five[0], five[1], five[2], five[3], five[4]);
        }
        int fault = coins.mint(text.length());
        int due = model.mint(text.length());
        found[due]++;
        if (fault != due || coins.fault() != model.fault()) {
            wrong++;
            if (wrong < 20) {
                System.out.println(text + ": fault " + fault + " at " + coins.fault() + ", due is " + due + " at " + model.fault());
            }
        }
    }
}
