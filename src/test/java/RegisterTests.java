import java.util.ArrayList;
import java.util.List;

/** Promises 33 to 47: registers, acts undone and redone, images, what is told. */
public final class RegisterTests {
    private static final String BOOK = "field f 7 order 3;field g 11 order 5;field h 5 order 2;"
        + "let a in f be 500*500*400;let b in f be 1;let c in f be z 1;let d in g be z 1+z 3*2;let e in h be 9;let i in f be 10*10*10*10";
    private static int seed = 5;

    private RegisterTests() {
    }

    public static void main(String[] args) {
        withoutBook();
        reckoning();
        bounds();
        sizes();
        sizesOfUnits();
        refusals();
        acts();
        images();
        oldestActIsForgotten();
        anyRuns();
        Due.end();
    }

    private static void row(TurningSums sums, int r, int... due) {
        for (int i = 0; i < due.length; i++) {
            Due.is(sums, "register " + r + ", " + i, sums.register(r, i), due[i], 0);
        }
    }

    private static void withoutBook() {
        TurningSums sums = new TurningSums();
        Due.is(sums, "choose", sums.choose(0), false, 1);
        Due.is(sums, "register", sums.register(0, 0), -1000000000, 1);
        Due.is(sums, "take", sums.take(0, 0), false, 1);
        Due.is(sums, "jacobi", sums.jacobi(0, 0, 0), false, 1);
        Due.is(sums, "add", sums.add(0, 0, 5000), false, 1);
        Due.is(sums, "times", sums.times(0, 0), false, 1);
        Due.is(sums, "turn", sums.turn(0, 0), false, 1);
        Due.is(sums, "size", sums.size(0), Due.NO_SIZE, 1);
        Due.is(sums, "undo", sums.undo(), false, 6);
        Due.is(sums, "redo", sums.redo(), false, 6);
        Due.is(sums, "image", sums.image(), -1, 1);
        Due.is(sums, "restore", sums.restore(0), false, 1);
        Due.is("led", Due.ledThrows(sums, 0, 0), true);
        Due.is("trouble after led", sums.trouble(), 1);
    }

    private static void reckoning() {
        TurningSums sums = Due.with(BOOK);
        for (int r = 0; r < 4; r++) {
            row(sums, r, 0, 0);
        }
        Due.is(sums, "take", sums.take(3, 2), true, 0);
        row(sums, 3, 0, 1);
        Due.is(sums, "times", sums.times(3, 3), true, 0);
        row(sums, 3, -1, -1);
        Due.is(sums, "add", sums.add(3, 3, -3), true, 0);
        row(sums, 3, 2, 2);
        Due.is(sums, "add", sums.add(2, 3, 999), true, 0);
        row(sums, 2, 1998, 1998);
        Due.is(sums, "add", sums.add(2, 3, -999), true, 0);
        row(sums, 2, 0, 0);
        Due.is(sums, "add nothing", sums.add(2, 3, 0), true, 0);
        row(sums, 2, 0, 0);
        Due.is("told(4)", sums.told(4), 6);
        Due.is(sums, "jacobi", sums.jacobi(0, 1, 1), true, 0);
        row(sums, 0, -1, -3);
        Due.is(sums, "jacobi", sums.jacobi(1, 2, 2), true, 0);
        row(sums, 1, 2, 3);
        Due.is(sums, "times", sums.times(1, 0), true, 0);
        row(sums, 1, 7, 0);
        row(sums, 0, -1, -3);
        Due.is(sums, "turn", sums.turn(0, 1), true, 0);
        row(sums, 0, -1, -3);
        Due.is(sums, "conj", sums.turn(0, 2), true, 0);
        row(sums, 0, 2, 3);
        Due.is(sums, "size", sums.size(0), 7, 0);
        Due.is(sums, "choose", sums.choose(1), true, 0);
        row(sums, 0, 0, 0, 0, 0);
        Due.is("told(3)", sums.told(3), 1);
        Due.is(sums, "take", sums.take(0, 3), true, 0);
        row(sums, 0, 0, 1, 0, 2);
        Due.is(sums, "turn", sums.turn(0, 3), true, 0);
        row(sums, 0, -2, -2, -2, -1);
        Due.is(sums, "times", sums.times(0, 0), true, 0);
        row(sums, 0, 0, 1, 4, 4);
        Due.is(sums, "choose", sums.choose(2), true, 0);
        Due.is(sums, "take", sums.take(0, 4), true, 0);
        Due.is(sums, "turn", sums.turn(0, 1), true, 0);
        Due.is(sums, "turn by the order", sums.turn(0, 2), false, 2);
        Due.is(sums, "register", sums.register(0, 1), -1000000000, 1);
        row(sums, 0, 9);
    }

    private static void bounds() {
        TurningSums sums = Due.with(BOOK);
        sums.take(0, 0);
        sums.take(1, 1);
        Due.is(sums, "above the most", sums.add(0, 1, 1), false, 7);
        row(sums, 0, 100000000, 0);
        Due.is("a refused act is none", sums.told(4), 2);
        Due.is(sums, "below the most", sums.add(0, 1, -1), true, 0);
        Due.is(sums, "to the most", sums.add(0, 1, 1), true, 0);
        sums.add(2, 0, -1);
        row(sums, 2, -100000000, 0);
        Due.is(sums, "below the least", sums.add(2, 1, -1), false, 7);
        Due.is(sums, "a great number of times that falls back", sums.add(2, 0, 2), true, 0);
        row(sums, 2, 100000000, 0);
        sums.take(1, 2);
        sums.times(1, 0);
        row(sums, 1, 0, 100000000);
        sums.add(2, 1, -1);
        row(sums, 2, 100000000, -100000000);
        int acts = sums.told(4);
        Due.is(sums, "turned too great", sums.turn(2, 2), false, 7);
        row(sums, 2, 100000000, -100000000);
        Due.is(sums, "size of what is turned too great", sums.size(2), Due.NO_SIZE, 7);
        Due.is(sums, "product too great", sums.times(2, 2), false, 7);
        Due.is(sums, "999 times", sums.add(2, 2, 999), false, 7);
        Due.is("no acts", sums.told(4), acts);
        Due.is(sums, "itself away", sums.add(2, 2, -1), true, 0);
        row(sums, 2, 0, 0);
    }

    private static void sizes() {
        TurningSums sums = Due.with("field f 7 order 3;let a in f be 10*10*10*10;let b in f be 1+10*10*10*10;field h 5 order 2;"
            + "let c in h be 0-500*500*400;field g 11 order 5;let d in g be 100+z 1*100");
        Due.is(sums, "size 0", sums.size(0), 0, 0);
        sums.take(0, 0);
        Due.is(sums, "size at the most", sums.size(0), 100000000, 0);
        row(sums, 0, 10000, 0);
        sums.take(0, 1);
        Due.is(sums, "size above the most", sums.size(0), Due.NO_SIZE, 7);
        sums.choose(1);
        sums.take(1, 2);
        Due.is(sums, "of order 2 a number has but itself", sums.size(1), -100000000, 0);
        sums.choose(2);
        sums.take(0, 3);
        Due.is(sums, "100 to the 4", sums.size(0), 100000000, 0);
        sums.add(0, 0, 1);
        Due.is(sums, "200 to the 4", sums.size(0), Due.NO_SIZE, 7);
        sums.jacobi(2, 1, 2);
        Due.is(sums, "size of a sum", sums.size(2), 121, 0);
        for (int r : new int[] {-1, 4, Integer.MAX_VALUE, Integer.MIN_VALUE}) {
            Due.is(sums, "size", sums.size(r), Due.NO_SIZE, 1);
        }
    }

    /** Every turn of a unit is a unit, so all of them together are 1; on the way they can be too great. */
    private static void sizesOfUnits() {
        TurningSums sums = Due.with("field f 29 order 7;let a in f be (1+z 1)*(1+z 1)*(1+z 1)*(1+z 1)*(1+z 1)*(1+z 1)*(1+z 1)");
        sums.take(0, 0);
        Due.is(sums, "a unit", sums.size(0), 1, 0);
        Due.is("a unit so far", soFar(sums), true);
        Due.is(sums, "times", sums.times(0, 0), true, 0);
        Due.is(sums, "a greater unit", sums.size(0), 1, 0);
        Due.is("a greater unit so far", soFar(sums), true);
        Due.is(sums, "times", sums.times(0, 0), true, 0);
        Due.is("a great unit so far", soFar(sums), false);
        Due.is(sums, "a great unit", sums.size(0), Due.NO_SIZE, 7);
    }

    private static boolean soFar(TurningSums sums) {
        long[] row = new long[6];
        for (int j = 0; j < 6; j++) {
            row[j] = sums.register(0, j);
        }
        long[] all = {1, 0, 0, 0, 0, 0, 0};
        for (int t = 1; t < 7; t++) {
            long[] next = new long[7];
            for (int i = 0; i < 7; i++) {
                for (int j = 0; j < 6; j++) {
                    next[(i + j * t) % 7] += all[i] * row[j];
                }
            }
            for (int i = 0; i < 7; i++) {
                all[i] = next[i] - next[6];
                if (Math.abs(all[i]) > 100000000) {
                    return false;
                }
            }
        }
        return true;
    }

    private static void refusals() {
        TurningSums sums = Due.with(BOOK);
        int[] noRegisters = {-1, 4, Integer.MAX_VALUE, Integer.MIN_VALUE};
        for (int r : noRegisters) {
            Due.is(sums, "register", sums.register(r, 0), -1000000000, 1);
            Due.is(sums, "take", sums.take(r, 3), false, 1);
            Due.is(sums, "jacobi", sums.jacobi(r, 0, 0), false, 1);
            Due.is(sums, "add r", sums.add(r, 0, 1000), false, 1);
            Due.is(sums, "add s", sums.add(0, r, 1000), false, 1);
            Due.is(sums, "times r", sums.times(r, 0), false, 1);
            Due.is(sums, "times s", sums.times(0, r), false, 1);
            Due.is(sums, "turn", sums.turn(r, 0), false, 1);
        }
        for (int i : new int[] {-1, 2, 9, 10, Integer.MAX_VALUE, Integer.MIN_VALUE}) {
            Due.is(sums, "register i", sums.register(0, i), -1000000000, 1);
        }
        for (int f : new int[] {-1, 3, Integer.MAX_VALUE, Integer.MIN_VALUE}) {
            Due.is(sums, "choose", sums.choose(f), false, 1);
        }
        for (int l : new int[] {-1, 6, 8, Integer.MAX_VALUE, Integer.MIN_VALUE}) {
            Due.is(sums, "take l", sums.take(0, l), false, 1);
        }
        Due.is(sums, "take of another field", sums.take(0, 3), false, 5);
        for (int a : new int[] {-1, 3, Integer.MAX_VALUE, Integer.MIN_VALUE}) {
            Due.is(sums, "jacobi a", sums.jacobi(0, a, 0), false, 1);
            Due.is(sums, "jacobi b", sums.jacobi(0, 0, a), false, 1);
        }
        for (int k : new int[] {-1000, 1000, Integer.MAX_VALUE, Integer.MIN_VALUE}) {
            Due.is(sums, "add k", sums.add(0, 0, k), false, 2);
        }
        for (int t : new int[] {-1, 0, 3, Integer.MAX_VALUE, Integer.MIN_VALUE}) {
            Due.is(sums, "turn t", sums.turn(0, t), false, 2);
        }
        Due.is("no acts", sums.told(4), 0);
        for (int what : new int[] {-1, 8, Integer.MAX_VALUE, Integer.MIN_VALUE}) {
            sums.undo();
            Due.is(sums, "told", sums.told(what), -1, 6);
        }
        Due.is("told(0)", sums.told(0), 3);
        Due.is("told(1)", sums.told(1), 0);
        Due.is("told(2)", sums.told(2), 6);
        Due.is("jacobi of the chosen field", sums.choose(1) && sums.jacobi(0, 4, 4), true);
    }

    private static void acts() {
        TurningSums sums = Due.with(BOOK);
        Due.is(sums, "choose is an act", sums.choose(1), true, 0);
        Due.is(sums, "take is an act", sums.take(0, 3), true, 0);
        Due.is(sums, "undo", sums.undo(), true, 0);
        row(sums, 0, 0, 0, 0, 0);
        Due.is(sums, "undo", sums.undo(), true, 0);
        Due.is("told(3)", sums.told(3), 0);
        Due.is(sums, "undo", sums.undo(), false, 6);
        Due.is("told(4)", sums.told(4), 0);
        Due.is("told(5)", sums.told(5), 2);
        Due.is(sums, "a refused act", sums.take(0, 99), false, 1);
        Due.is("told(5)", sums.told(5), 2);
        Due.is(sums, "redo", sums.redo(), true, 0);
        Due.is("told(3)", sums.told(3), 1);
        Due.is(sums, "redo", sums.redo(), true, 0);
        row(sums, 0, 0, 1, 0, 2);
        Due.is(sums, "redo", sums.redo(), false, 6);
        Due.is(sums, "undo", sums.undo(), true, 0);
        Due.is(sums, "an act that changes nothing", sums.add(1, 1, 0), true, 0);
        Due.is("told(5)", sums.told(5), 0);
        Due.is("told(4)", sums.told(4), 2);
        Due.is(sums, "redo", sums.redo(), false, 6);
    }

    private static void images() {
        TurningSums sums = Due.with(BOOK);
        Due.is(sums, "image", sums.image(), 0, 0);
        sums.take(0, 1);
        Due.is(sums, "image", sums.image(), 1, 0);
        Due.is("an image is no act", sums.told(4), 1);
        sums.choose(1);
        sums.take(2, 3);
        Due.is(sums, "image", sums.image(), 2, 0);
        Due.is(sums, "restore", sums.restore(1), true, 0);
        row(sums, 0, 1, 0);
        row(sums, 2, 0, 0);
        Due.is("told(3)", sums.told(3), 0);
        Due.is("all images stay", sums.told(6), 3);
        Due.is("restore is an act", sums.told(4), 4);
        Due.is(sums, "undo", sums.undo(), true, 0);
        Due.is("told(3)", sums.told(3), 1);
        row(sums, 2, 0, 1, 0, 2);
        Due.is("images stay when undone", sums.told(6), 3);
        Due.is(sums, "restore", sums.restore(0), true, 0);
        row(sums, 0, 0, 0);
        sums.take(0, 2);
        Due.is(sums, "restore", sums.restore(0), true, 0);
        row(sums, 0, 0, 0);
        Due.is(sums, "restore", sums.restore(2), true, 0);
        row(sums, 2, 0, 1, 0, 2);
        Due.is(sums, "image", sums.image(), 3, 0);
        Due.is(sums, "a fifth image", sums.image(), -1, 3);
        Due.is("told(6)", sums.told(6), 4);
        for (int image : new int[] {-1, 4, Integer.MAX_VALUE, Integer.MIN_VALUE}) {
            Due.is(sums, "restore", sums.restore(image), false, 1);
        }
        Due.is(sums, "restore", sums.restore(3), true, 0);
    }

    private static void oldestActIsForgotten() {
        TurningSums sums = Due.with(BOOK);
        sums.take(1, 1);
        for (int i = 0; i < 30; i++) {
            Due.is(sums, "add", sums.add(0, 1, 1), true, 0);
            Due.is("told(4)", sums.told(4), Math.min(20, i + 2));
        }
        for (int i = 0; i < 20; i++) {
            row(sums, 0, 30 - i, 0);
            Due.is(sums, "undo", sums.undo(), true, 0);
        }
        row(sums, 0, 10, 0);
        Due.is(sums, "a 21st undo", sums.undo(), false, 6);
        Due.is("told(5)", sums.told(5), 20);
        for (int i = 0; i < 20; i++) {
            Due.is(sums, "redo", sums.redo(), true, 0);
        }
        row(sums, 0, 30, 0);
        Due.is(sums, "a 21st redo", sums.redo(), false, 6);
        sums.undo();
        sums.add(0, 1, 5);
        row(sums, 0, 34, 0);
        Due.is("told(4)", sums.told(4), 20);
        for (int i = 0; i < 21; i++) {
            // So that every state that is kept holds something else than 0, of another field than the first.
            sums.choose(1);
            sums.jacobi(0, 0, 0);
        }
        Due.is("a new book", Due.book(sums, BOOK), 3);
        Due.is("told(3)", sums.told(3), 0);
        row(sums, 0, 0, 0);
        sums.jacobi(3, 1, 1);
        sums.undo();
        row(sums, 3, 0, 0);
    }

    private static int any(int bound) {
        seed = seed * 1103515245 + 12345;
        return (seed >>> 8) % bound;
    }

    private static String seen(TurningSums sums) {
        int f = sums.told(3);
        StringBuilder seen = new StringBuilder().append(f);
        for (int r = 0; r < 4; r++) {
            for (int i = 0; i < new int[] {2, 4, 1}[f]; i++) {
                seen.append(' ').append(sums.register(r, i));
            }
        }
        return seen.toString();
    }

    private static boolean anyAct(TurningSums sums) {
        switch (any(7)) {
            case 0:
                return any(6) == 0 && sums.choose(any(4));
            case 1:
                return sums.take(any(5), any(7));
            case 2:
                return sums.jacobi(any(4), any(3), any(3));
            case 3:
                return sums.add(any(4), any(4), any(2001) - 1000);
            case 4:
                return sums.times(any(4), any(4));
            case 5:
                return sums.turn(any(4), any(5));
            default:
                return any(5) == 0 && sums.restore(any(5));
        }
    }

    /** Runs of acts, held against a list of all that was seen. */
    private static void anyRuns() {
        for (int round = 0; round < 240; round++) {
            TurningSums sums = Due.with(BOOK);
            List<String> before = new ArrayList<>();
            List<String> behind = new ArrayList<>();
            String is = seen(sums);
            // No more steps than 512 calls allow.
            for (int step = 0; step < 24; step++) {
                int kind = any(10);
                boolean acted = false;
                String due = is;
                if (kind < 2) {
                    Due.is("undo", sums.undo(), !before.isEmpty());
                    due = moved(is, before, behind);
                } else if (kind < 4) {
                    Due.is("redo", sums.redo(), !behind.isEmpty());
                    due = moved(is, behind, before);
                } else if (kind == 4) {
                    sums.image();
                } else if (anyAct(sums)) {
                    acted = true;
                    before.add(is);
                    behind.clear();
                    if (before.size() > 20) {
                        before.remove(0);
                    }
                }
                is = seen(sums);
                Due.is("seen", acted || is.equals(due), true);
                Due.is("told(4)", sums.told(4), before.size());
                Due.is("told(5)", sums.told(5), behind.size());
            }
        }
    }

    /** What is seen when the latest of one list comes back and what is goes to the other. */
    private static String moved(String is, List<String> from, List<String> to) {
        if (from.isEmpty()) {
            return is;
        }
        to.add(is);
        return from.remove(from.size() - 1);
    }
}
