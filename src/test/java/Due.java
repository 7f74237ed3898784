import java.util.NoSuchElementException;

/** Counts answers that are not due, and feeds texts as the class wants them: twenty bytes a call. */
final class Due {
    static final long NO_SIZE = Long.MIN_VALUE;
    private static int wrong = 0;
    private static int asked = 0;

    private Due() {
    }

    static void is(String what, long got, long due) {
        asked++;
        if (got != due) {
            wrong++;
            if (wrong < 40) {
                System.out.println(what + " answered " + got + ", due is " + due);
            }
        }
    }

    static void is(String what, boolean got, boolean due) {
        is(what, got ? 1 : 0, due ? 1 : 0);
    }

    /** An answer together with the trouble that it leaves. */
    static void is(TurningSums sums, String what, long got, long due, int trouble) {
        is(what, got, due);
        is("trouble after " + what, sums.trouble(), trouble);
    }

    static void is(TurningSums sums, String what, boolean got, boolean due, int trouble) {
        is(sums, what, got ? 1 : 0, due ? 1 : 0, trouble);
    }

    static void end() {
        System.out.println(wrong == 0 ? asked + " answers are as due" : wrong + " of " + asked + " answers are not as due");
        if (wrong != 0) {
            System.exit(1);
        }
    }

    static int[] bytes(String text) {
        int[] bytes = new int[(text.length() + 19) / 20 * 20];
        for (int i = 0; i < bytes.length; i++) {
            bytes[i] = i < text.length() ? text.charAt(i) : ' ';
        }
        return bytes;
    }

    private static int four(int[] bytes, int at) {
        return bytes[at] << 24 | bytes[at + 1] << 16 | bytes[at + 2] << 8 | bytes[at + 3];
    }

    static void feed(TurningSums sums, String text) {
        int[] bytes = bytes(text);
        for (int i = 0; i < bytes.length; i += 20) {
            sums.feed(four(bytes, i), four(bytes, i + 4), four(bytes, i + 8), four(bytes, i + 12), four(bytes, i + 16));
        }
    }

    /** Feeds the text and makes just it the book. */
    static int book(TurningSums sums, String text) {
        feed(sums, text);
        return sums.book(text.length());
    }

    static TurningSums with(String text) {
        TurningSums sums = new TurningSums();
        if (book(sums, text) < 0) {
            is("the book '" + text + "' has fault " + sums.fault() + " at " + sums.where(), 0, 1);
        }
        return sums;
    }

    static void fault(String text, int fault, int place) {
        TurningSums sums = new TurningSums();
        is(sums, "book '" + text + "'", book(sums, text), -1, 4);
        is("fault of '" + text + "'", sums.fault(), fault);
        is("where of '" + text + "'", sums.where(), place);
        is("tape after a faulty book", sums.told(7), 0);
    }

    static void good(String text, int fields) {
        TurningSums sums = new TurningSums();
        is(sums, "book '" + text + "'", book(sums, text), fields, 0);
        is("fault of '" + text + "'", sums.fault(), 0);
        is("where of '" + text + "'", sums.where(), -1);
    }

    static boolean ledThrows(TurningSums sums, int f, int i) {
        try {
            sums.led(f, i);
            return false;
        } catch (NoSuchElementException none) {
            return true;
        }
    }
}
