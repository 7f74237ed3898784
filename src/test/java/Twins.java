import java.util.NoSuchElementException;

/**
 * No test by itself: makes two objects by the same calls and asks but one of them, twice. Whether it answers or refuses,
 * both must be alike behind it in all that can be seen of them, and in all that undo, redo, restore and book bring to light.
 */
final class Twins {
    /** What stands for the exception of led among the answers. */
    static final long THROWN = Long.MIN_VALUE + 7;

    interface Past {
        void of(TurningSums sums);
    }

    interface Call {
        long of(TurningSums sums);
    }

    private final Past past;

    Twins(Past past) {
        this.past = past;
    }

    static long count(boolean answer) {
        return answer ? 1 : 0;
    }

    static long led(TurningSums sums, int f, int i) {
        try {
            return sums.led(f, i);
        } catch (NoSuchElementException none) {
            return THROWN;
        }
    }

    /** A call that is refused by that number, and changes nothing. */
    void refuses(String what, int trouble, long due, Call call) {
        changesNothing(what, trouble, due, call);
    }

    /** A question: it is answered, and changes nothing. */
    void answers(String what, long due, Call call) {
        changesNothing(what, 0, due, call);
    }

    private void changesNothing(String what, int trouble, long due, Call call) {
        TurningSums asked = made();
        TurningSums other = made();
        Due.is(what, call.of(asked), due);
        Due.is("trouble behind " + what, asked.trouble(), trouble);
        Due.is("the same again: " + what, call.of(asked), due);
        Due.is("trouble behind " + what, asked.trouble(), trouble);
        Due.is("where behind " + what, asked.where(), -1);
        Due.is("fault behind " + what, asked.fault(), other.fault());
        alike(what, asked, other);
    }

    /** A call that may not be refused: it leaves the latest trouble and its place, whatever it answers. */
    void leaves(String what, long due, Call call) {
        TurningSums asked = made();
        TurningSums other = made();
        Due.is(what, call.of(asked), due);
        Due.is("trouble behind " + what, asked.trouble(), other.trouble());
        Due.is("where behind " + what, asked.where(), other.where());
        Due.is("fault behind " + what, asked.fault(), other.fault());
        alike(what, asked, other);
    }

    TurningSums made() {
        TurningSums sums = new TurningSums();
        past.of(sums);
        return sums;
    }

    static void alike(String what, TurningSums asked, TurningSums other) {
        String got = everything(asked);
        String due = everything(other);
        if (!got.equals(due)) {
            System.out.println("seen: " + got + "\n due: " + due);
        }
        Due.is("nothing is changed by " + what, got.equals(due), true);
    }

    /** All that can be seen; it takes the object apart, so that it is of no use behind it. */
    private static String everything(TurningSums sums) {
        StringBuilder seen = new StringBuilder();
        for (int what = 0; what <= 7; what++) {
            seen.append(sums.told(what)).append(' ');
        }
        seen.append("fault ").append(sums.fault());
        appendBook(seen, sums);
        appendRegisters(seen.append(" now"), sums);
        for (int i = 0; i < 21 && sums.undo(); i++) {
            appendRegisters(seen.append(" undone"), sums);
        }
        for (int i = 0; i < 21 && sums.redo(); i++) {
            appendRegisters(seen.append(" redone"), sums);
        }
        for (int image = 0; image < 4 && sums.restore(image); image++) {
            appendRegisters(seen.append(" image"), sums);
        }
        seen.append(" tape ").append(sums.book(sums.told(7))).append(' ').append(sums.fault()).append(' ').append(sums.where());
        appendBook(seen, sums);
        return seen.toString();
    }

    private static void appendBook(StringBuilder seen, TurningSums sums) {
        for (int f = 0; f < sums.told(0); f++) {
            for (int what = 0; what <= 3; what++) {
                seen.append(" field ").append(sums.field(f, what));
            }
        }
        for (int e = 0; e < sums.told(1); e++) {
            seen.append(" equation ").append(sums.count(e)).append(' ').append(sums.countOf(e, 0));
        }
        for (int l = 0; l < sums.told(2); l++) {
            int f = sums.letField(l);
            int length = sums.field(f, 3);
            seen.append(" let ").append(f);
            for (int i = 0; i < length; i++) {
                seen.append(' ').append(sums.let(l, i));
            }
        }
    }

    private static void appendRegisters(StringBuilder seen, TurningSums sums) {
        int f = sums.told(3);
        int length = sums.field(f, 3);
        seen.append(' ').append(f);
        for (int r = 0; r < 4; r++) {
            for (int i = 0; i < length; i++) {
                seen.append(' ').append(sums.register(r, i));
            }
        }
    }
}
