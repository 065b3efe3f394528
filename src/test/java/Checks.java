import java.util.ArrayList;
import java.util.List;

/** What the tests by promise share: a count of wrong answers, and objects told in letters. */
abstract class Checks {
    static final long LONG = 4000000000000000000L;
    static final int MIN = Integer.MIN_VALUE;
    static final int MAX = Integer.MAX_VALUE;

    private static int wrong = 0;

    static void due(int promise, String what, long got, long want) {
        if (got != want) {
            wrong++;
            System.out.println("promise " + promise + ", " + what + ": answered " + got + ", due is " + want);
        }
    }

    static void dues(int promise, String what, int[] got, int... want) {
        due(promise, what + ": how many", got.length, want.length);
        for (int i = 0; i < want.length && i < got.length; i++) {
            due(promise, what + " at " + i, got[i], want[i]);
        }
    }

    static void alike(int promise, String what, List<Long> got, List<Long> want) {
        if (!got.equals(want)) {
            wrong++;
            System.out.println("promise " + promise + ", " + what + ": it is\n  " + got + "\nand should be\n  " + want);
        }
    }

    /** Tells how it went, and ends the machine if something was wrong. */
    static void end(String good) {
        System.out.println(wrong == 0 ? good : wrong + " answers are not as due");
        if (wrong != 0) {
            System.exit(1);
        }
    }

    static SecondHelping feed(SecondHelping x, String text) {
        for (char letter : text.toCharArray()) {
            x.feed(letter);
        }
        return x;
    }

    /** The answer of state() on a text. */
    static int tell(SecondHelping x, String text) {
        return feed(x, text).state();
    }

    /** A new object that was told these texts, 96 letters at most each. */
    static SecondHelping told(String... texts) {
        SecondHelping x = new SecondHelping();
        for (String text : texts) {
            int statements = tell(x, text);
            if (statements < 0) {
                throw new IllegalStateException(text + ": " + statements);
            }
        }
        return x;
    }

    static SecondHelping rowed(SecondHelping x, int... numbers) {
        x.clear();
        for (int number : numbers) {
            x.row(number);
        }
        return x;
    }

    static int[] refusals(SecondHelping x) {
        int[] all = new int[6];
        for (int i = 0; i < 6; i++) {
            all[i] = x.count(11 + i);
        }
        return all;
    }

    /** DOINGS, THE LAW and THE LOG: all that there is of chapter I but letters and the ROW. */
    static List<Long> board(SecondHelping x) {
        List<Long> all = new ArrayList<>();
        for (int what = 0; what <= 3; what++) {
            all.add((long) x.count(what));
        }
        int doings = x.count(0);
        for (int d = 0; d < doings; d++) {
            for (int what = 0; what <= 2; what++) {
                all.add((long) x.doingOf(d, what));
            }
        }
        int places = x.count(1);
        for (int p = 0; p < places; p++) {
            all.add((long) x.place(p, 0));
        }
        return all;
    }
}
