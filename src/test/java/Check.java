import java.util.ArrayList;
import java.util.List;
import java.util.NoSuchElementException;

/** What the project's tests share: counting what is due, expecting exceptions, telling a text to a mint. */
final class Check {
    interface Call {
        long run();
    }

    private static int passed = 0;
    private static int failed = 0;
    private static volatile String heading = "";

    private Check() {
    }

    /** From now on what is wrong is told under this heading. */
    static void under(String name) {
        heading = name.isEmpty() ? "" : name + ": ";
    }

    /** A call that fails to end must not keep the tests waiting: behind so many seconds they have failed. */
    static void endWithin(int seconds) {
        Thread watch = new Thread(() -> {
            try {
                Thread.sleep(1000L * seconds);
                System.out.println(heading + "no end behind " + seconds + " seconds");
                Runtime.getRuntime().halt(1);
            } catch (InterruptedException e) {
                Thread.currentThread().interrupt();
            }
        });
        watch.setDaemon(true);
        watch.start();
    }

    static int done() {
        return passed + failed;
    }

    static void due(String what, long got, long want) {
        note(got == want, what + " answered " + got + ", due is " + want);
    }

    static void due(String what, boolean got, boolean want) {
        due(what, got ? 1 : 0, want ? 1 : 0);
    }

    static void same(String what, String got, String want) {
        note(got.equals(want), what + " is " + got + ", due is " + want);
    }

    private static void note(boolean isDue, String wrong) {
        if (isDue) {
            passed++;
        } else {
            failed++;
            System.out.println(heading + wrong);
        }
    }

    static void noSuch(String what, Call call) {
        throwsJust(what, call, NoSuchElementException.class);
    }

    static void illegal(String what, Call call) {
        throwsJust(what, call, IllegalArgumentException.class);
    }

    private static void throwsJust(String what, Call call, Class<?> due) {
        try {
            note(false, what + " answered " + call.run() + ", due is " + due.getSimpleName());
        } catch (RuntimeException e) {
            note(e.getClass() == due, what + " threw " + e + ", due is " + due.getSimpleName());
        }
    }

    /** Feeds the text and mints it: what mint() answers. */
    static int tell(NamedCoins mint, String text) {
        feedText(mint, text);
        return mint.mint(text.length());
    }

    static void feedText(NamedCoins mint, String text) {
        for (int[] five : fives(text)) {
            mint.feed(five[0], five[1], five[2], five[3], five[4]);
        }
    }

    /** The text's bytes (a character is one) as feed() takes them, with blanks up to the last twenty. */
    static List<int[]> fives(String text) {
        List<int[]> fives = new ArrayList<>();
        for (int from = 0; from < text.length(); from += 20) {
            int[] five = new int[5];
            for (int i = 0; i < 20; i++) {
                five[i / 4] = five[i / 4] << 8 | (from + i < text.length() ? text.charAt(from + i) : ' ');
            }
            fives.add(five);
        }
        return fives;
    }

    static NamedCoins told(String text) {
        NamedCoins mint = new NamedCoins();
        due("mint of " + text, tell(mint, text), 0);
        return mint;
    }

    static void end(String name) {
        System.out.println(name + ": " + passed + " answers as due, " + failed + " not");
        if (failed != 0) {
            System.exit(1);
        }
    }
}
