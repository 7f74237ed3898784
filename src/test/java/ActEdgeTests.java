/** The edges of promises 33 to 47: registers, acts, images, what is told, and that a refused act is none. */
public final class ActEdgeTests {
    private static final int LEAST = Integer.MIN_VALUE;
    private static final int MOST = Integer.MAX_VALUE;
    private static final int HUNDRED = 100000000;
    private static final int NO_NUMBER = -1000000000;
    private static final int[] NO_REGISTER = {-1, 4, 5, LEAST, MOST};
    private static final String BOOK = "field f 7 order 3;field g 13 order 12;field h 3 order 2;let a in f be 500*500*400;let b in f be z 1;"
        + "let c in g be z 7*500;let d in h be 9;let e in h be 10*10*10*10-1;let i in h be 10*10*10*10+1;let j in h be 17";

    private static final Twins OLD = new Twins(ActEdgeTests::past);
    private static final Twins NEW = new Twins(sums -> Due.feed(sums, "field q 11 order 5"));
    private static final Twins FULL = new Twins(ActEdgeTests::fullPast);

    private ActEdgeTests() {
    }

    public static void main(String[] args) {
        withoutBook();
        choose();
        register();
        take();
        jacobi();
        addIsRefused();
        addAtTheMost();
        timesAtTheMost();
        timesIsRefused();
        turn();
        turnAtTheMost();
        size();
        sizeOnTheWay();
        undoAndRedo();
        twentyActs();
        roundAndRound();
        redoIsForgotten();
        images();
        restore();
        imagesOfAnotherField();
        told();
        everyTrouble();
        Due.end();
    }

    /** Registers 0 and 1 hold rows, an act is undone, two images are, a fault was, and bytes stand on the tape. */
    private static void past(TurningSums sums) {
        Due.is("a book", Due.book(sums, BOOK), 3);
        sums.take(0, 0);
        sums.image();
        sums.choose(0);
        sums.jacobi(1, 2, 2);
        sums.take(0, 0);
        sums.add(2, 0, -1);
        sums.image();
        sums.choose(1);
        sums.jacobi(3, 5, 4);
        sums.undo();
        sums.undo();
        Due.is("a faulty book", Due.book(sums, "field f 9"), -1);
        Due.feed(sums, "field q 11 order 5");
    }

    /** As many acts and images as there can be. */
    private static void fullPast(TurningSums sums) {
        Due.is("a book", Due.book(sums, BOOK), 3);
        sums.choose(2);
        sums.take(1, 3);
        for (int i = 0; i < 20; i++) {
            sums.add(0, 1, 1);
            if (i < 4) {
                sums.image();
            }
        }
        Due.is("acts", sums.told(4), 20);
        Due.is("images", sums.told(6), 4);
    }

    private static void row(TurningSums sums, int r, int... due) {
        for (int i = 0; i < due.length; i++) {
            Due.is(sums, "register " + r + ", " + i, sums.register(r, i), due[i], 0);
        }
        Due.is(sums, "register " + r + ", " + due.length, sums.register(r, due.length), NO_NUMBER, 1);
    }

    private static void refuses(Twins twins, String what, int trouble, Twins.Call call) {
        twins.refuses(what, trouble, 0, call);
    }

    private static void withoutBook() {
        refuses(NEW, "choose", 1, sums -> Twins.count(sums.choose(0)));
        NEW.refuses("register", 1, NO_NUMBER, sums -> sums.register(0, 0));
        refuses(NEW, "take", 1, sums -> Twins.count(sums.take(0, 0)));
        refuses(NEW, "jacobi", 1, sums -> Twins.count(sums.jacobi(0, 0, 0)));
        refuses(NEW, "add", 1, sums -> Twins.count(sums.add(0, 0, 0)));
        refuses(NEW, "add 1000", 1, sums -> Twins.count(sums.add(0, 0, 1000)));
        refuses(NEW, "times", 1, sums -> Twins.count(sums.times(0, 0)));
        refuses(NEW, "turn", 1, sums -> Twins.count(sums.turn(0, 1)));
        refuses(NEW, "turn 0", 1, sums -> Twins.count(sums.turn(0, 0)));
        NEW.refuses("size", 1, Due.NO_SIZE, sums -> sums.size(0));
        refuses(NEW, "undo", 6, sums -> Twins.count(sums.undo()));
        refuses(NEW, "redo", 6, sums -> Twins.count(sums.redo()));
        NEW.refuses("image", 1, -1, sums -> sums.image());
        refuses(NEW, "restore", 1, sums -> Twins.count(sums.restore(0)));
        for (int what = 0; what < 7; what++) {
            int asked = what;
            NEW.leaves("told " + what, 0, sums -> sums.told(asked));
        }
        NEW.leaves("told 7", 20, sums -> sums.told(7));
        NEW.leaves("told 8", -1, sums -> sums.told(8));
        // A faulty book is none.
        Twins faulty = new Twins(sums -> Due.book(sums, "field f 7 order 3;field"));
        refuses(faulty, "choose", 1, sums -> Twins.count(sums.choose(0)));
        faulty.refuses("image", 1, -1, sums -> sums.image());
        faulty.refuses("register", 1, NO_NUMBER, sums -> sums.register(0, 0));
        Due.is("no field is told", faulty.made().told(0), 0);
    }

    private static void choose() {
        for (int f : new int[] {-1, 3, 4, LEAST, MOST}) {
            refuses(OLD, "choose " + f, 1, sums -> Twins.count(sums.choose(f)));
        }
        TurningSums sums = OLD.made();
        int acts = sums.told(4);
        Due.is(sums, "choose the last", sums.choose(2), true, 0);
        Due.is("told(3)", sums.told(3), 2);
        Due.is("an act", sums.told(4), acts + 1);
        Due.is("nothing to redo", sums.told(5), 0);
        for (int r = 0; r < 4; r++) {
            row(sums, r, 0);
        }
        sums.take(0, 3);
        Due.is(sums, "choose the same: all 0", sums.choose(2), true, 0);
        row(sums, 0, 0);
        Due.is("an act", sums.told(4), acts + 3);
        Due.is(sums, "undo", sums.undo(), true, 0);
        row(sums, 0, 9);
        Due.is(sums, "choose the first", sums.choose(0), true, 0);
        row(sums, 0, 0, 0);
        row(sums, 3, 0, 0);
        Due.is("images stay", sums.told(6), 2);
    }

    private static void register() {
        OLD.answers("register 0, 0", HUNDRED, sums -> sums.register(0, 0));
        OLD.answers("register 1, 1", 3, sums -> sums.register(1, 1));
        OLD.answers("register 3, 1", 0, sums -> sums.register(3, 1));
        for (int r : NO_REGISTER) {
            OLD.refuses("register " + r, 1, NO_NUMBER, sums -> sums.register(r, 0));
        }
        for (int i : new int[] {-1, 2, 3, 9, 10, 41, LEAST, MOST}) {
            OLD.refuses("register 0, " + i, 1, NO_NUMBER, sums -> sums.register(0, i));
            OLD.refuses("register 3, " + i, 1, NO_NUMBER, sums -> sums.register(3, i));
        }
        // Each register is its own, to the last number of the longest row, also behind acts, when undone and in images.
        TurningSums sums = Due.with("field g 3 order 2;field f 23 order 11;"
            + "let a in f be 1+2*z 1+3*z 2+4*z 3+5*z 4+6*z 5+7*z 6+8*z 7+9*z 8+10*z 9;let b in g be 5");
        sums.choose(1);
        for (int r = 0; r < 4; r++) {
            sums.take(r, 0);
            sums.add(r, r, r);
        }
        longRows(sums);
        sums.add(0, 0, 0);
        longRows(sums);
        sums.image();
        for (int i = 0; i < 15; i++) {
            sums.choose(i % 2);
            sums.take(3, 1 - i % 2);
        }
        for (int i = 0; i < 20; i++) {
            Due.is(sums, "undo", sums.undo(), true, 0);
            Due.is("field of what was", sums.told(3), (i + 1) / 2 % 2);
        }
        sums.restore(0);
        Due.is("field of the image", sums.told(3), 1);
        longRows(sums);
    }

    private static void longRows(TurningSums sums) {
        for (int r = 0; r < 4; r++) {
            int k = r + 1;
            row(sums, r, k, 2 * k, 3 * k, 4 * k, 5 * k, 6 * k, 7 * k, 8 * k, 9 * k, 10 * k);
        }
    }

    private static void take() {
        for (int r : NO_REGISTER) {
            refuses(OLD, "take to " + r, 1, sums -> Twins.count(sums.take(r, 0)));
            refuses(OLD, "take of another field to " + r, 1, sums -> Twins.count(sums.take(r, 2)));
        }
        for (int l : new int[] {-1, 7, 8, LEAST, MOST}) {
            refuses(OLD, "take " + l, 1, sums -> Twins.count(sums.take(0, l)));
        }
        for (int l = 2; l <= 6; l++) {
            int asked = l;
            refuses(OLD, "take of another field, " + l, 5, sums -> Twins.count(sums.take(3, asked)));
        }
        TurningSums sums = OLD.made();
        Due.is(sums, "take", sums.take(3, 1), true, 0);
        row(sums, 3, 0, 1);
        Due.is("nothing to redo", sums.told(5), 0);
        sums.choose(1);
        Due.is(sums, "take what is of the first field", sums.take(0, 0), false, 5);
        Due.is(sums, "take what is of the second", sums.take(0, 2), true, 0);
        row(sums, 0, 0, -500, 0, 0);
        sums.undo();
        sums.undo();
        Due.is(sums, "undone, the field is the first", sums.take(0, 2), false, 5);
        Due.is("that refusal leaves redo", sums.told(5), 2);
    }

    private static void jacobi() {
        for (int r : NO_REGISTER) {
            refuses(OLD, "jacobi to " + r, 1, sums -> Twins.count(sums.jacobi(r, 1, 1)));
        }
        for (int a : new int[] {-1, 3, 11, LEAST, MOST}) {
            refuses(OLD, "jacobi a " + a, 1, sums -> Twins.count(sums.jacobi(0, a, 0)));
            refuses(OLD, "jacobi b " + a, 1, sums -> Twins.count(sums.jacobi(0, 0, a)));
        }
        TurningSums sums = OLD.made();
        Due.is(sums, "jacobi 2, 2", sums.jacobi(3, 2, 2), true, 0);
        row(sums, 3, 2, 3);
        Due.is(sums, "jacobi 0, 0", sums.jacobi(3, 0, 0), true, 0);
        row(sums, 3, 7, 0);
        sums.choose(2);
        Due.is(sums, "jacobi 2 of an order of 2", sums.jacobi(0, 2, 0), false, 1);
        Due.is(sums, "jacobi 1, 1", sums.jacobi(0, 1, 1), true, 0);
        row(sums, 0, 1);
    }

    private static void addIsRefused() {
        for (int r : NO_REGISTER) {
            refuses(OLD, "add to " + r, 1, sums -> Twins.count(sums.add(r, 0, 1)));
            refuses(OLD, "add " + r, 1, sums -> Twins.count(sums.add(0, r, 1)));
            refuses(OLD, "add " + r + " too often", 1, sums -> Twins.count(sums.add(0, r, 1000)));
        }
        for (int k : new int[] {-1000, 1000, LEAST, MOST}) {
            refuses(OLD, "add " + k + " times", 2, sums -> Twins.count(sums.add(3, 1, k)));
            refuses(OLD, "add too much " + k + " times", 2, sums -> Twins.count(sums.add(0, 0, k)));
        }
        for (int k : new int[] {1, 2, 999, -3, -999}) {
            refuses(OLD, "add what is too great", 7, sums -> Twins.count(sums.add(0, 0, k)));
        }
        refuses(OLD, "add to the most", 7, sums -> Twins.count(sums.add(0, 1, 1)));
        TurningSums sums = OLD.made();
        int acts = sums.told(4);
        Due.is(sums, "add 999 times", sums.add(3, 1, 999), true, 0);
        row(sums, 3, 1998, 2997);
        Due.is(sums, "add -999 times", sums.add(3, 1, -999), true, 0);
        row(sums, 3, 0, 0);
        Due.is(sums, "add no times", sums.add(3, 1, 0), true, 0);
        row(sums, 3, 0, 0);
        Due.is("acts, also the one that changes nothing", sums.told(4), acts + 3);
        Due.is("nothing to redo", sums.told(5), 0);
        Due.is(sums, "add itself", sums.add(1, 1, 2), true, 0);
        row(sums, 1, 6, 9);
        Due.is(sums, "take itself away twice", sums.add(0, 0, -2), true, 0);
        row(sums, 0, -HUNDRED, 0);
    }

    private static void addAtTheMost() {
        TurningSums sums = Due.with(BOOK);
        sums.take(0, 0);
        sums.jacobi(1, 2, 1);
        row(sums, 1, -1, 0);
        int acts = sums.told(4);
        Due.is(sums, "one more than the most", sums.add(0, 1, -1), false, 7);
        Due.is("where: not by 4", sums.where(), -1);
        row(sums, 0, HUNDRED, 0);
        Due.is("no act", sums.told(4), acts);
        Due.is(sums, "one less", sums.add(0, 1, 1), true, 0);
        row(sums, 0, HUNDRED - 1, 0);
        Due.is(sums, "the most", sums.add(0, 1, -1), true, 0);
        row(sums, 0, HUNDRED, 0);
        Due.is(sums, "the least", sums.add(2, 0, -1), true, 0);
        row(sums, 2, -HUNDRED, 0);
        Due.is(sums, "one less than the least", sums.add(2, 1, 1), false, 7);
        row(sums, 2, -HUNDRED, 0);
        Due.is(sums, "one more than the least", sums.add(2, 1, -1), true, 0);
        row(sums, 2, 1 - HUNDRED, 0);
        // k times s may be too great by itself, if what comes out is not.
        sums.add(2, 1, 1);
        Due.is(sums, "less 100,000,000 and twice that", sums.add(2, 0, 2), true, 0);
        row(sums, 2, HUNDRED, 0);
        // The second number of a row alone.
        sums.take(3, 1);
        sums.times(3, 2);
        row(sums, 3, 0, HUNDRED);
        sums.take(1, 1);
        Due.is(sums, "one more than the most", sums.add(3, 1, 1), false, 7);
        Due.is(sums, "one less", sums.add(3, 1, -1), true, 0);
        Due.is(sums, "the least", sums.add(3, 3, -2), true, 0);
        row(sums, 3, 0, 1 - HUNDRED);
        Due.is(sums, "the least", sums.add(3, 1, -1), true, 0);
        Due.is(sums, "one less than the least", sums.add(3, 1, -1), false, 7);
        row(sums, 3, 0, -HUNDRED);
    }

    private static void timesAtTheMost() {
        TurningSums sums = Due.with(BOOK);
        sums.choose(2);
        sums.take(0, 4);
        sums.take(1, 5);
        Due.is(sums, "9,999 times 10,001", sums.times(0, 1), true, 0);
        row(sums, 0, HUNDRED - 1);
        sums.take(0, 5);
        Due.is(sums, "10,001 times 10,001", sums.times(0, 1), false, 7);
        row(sums, 0, 10001);
        sums.add(0, 2, 0);
        sums.jacobi(2, 1, 1);
        sums.add(0, 2, -1);
        sums.add(1, 2, -1);
        Due.is(sums, "10,000 times 10,000", sums.times(0, 1), true, 0);
        row(sums, 0, HUNDRED);
        Due.is(sums, "once", sums.times(0, 2), true, 0);
        row(sums, 0, HUNDRED);
        // 17 times 5,882,353 is one more than the most.
        sums.take(0, 6);
        int[] digits = {5, 8, 8, 2, 3, 5, 3};
        sums.choose(2);
        sums.jacobi(2, 1, 1);
        for (int digit : digits) {
            sums.add(3, 3, 9);
            sums.add(3, 2, digit);
        }
        row(sums, 3, 5882353);
        sums.take(0, 6);
        Due.is(sums, "17 times 5,882,353", sums.times(0, 3), false, 7);
        row(sums, 0, 17);
        Due.is(sums, "the other way", sums.times(3, 0), false, 7);
        row(sums, 3, 5882353);
        sums.add(0, 0, -2);
        Due.is(sums, "less 17 times 5,882,353", sums.times(0, 3), false, 7);
        sums.add(0, 2, 1);
        Due.is(sums, "less 16 times 5,882,353", sums.times(0, 3), true, 0);
        row(sums, 0, -16 * 5882353);
    }

    private static void timesIsRefused() {
        for (int r : NO_REGISTER) {
            refuses(OLD, "times " + r, 1, sums -> Twins.count(sums.times(r, 0)));
            refuses(OLD, "times by " + r, 1, sums -> Twins.count(sums.times(0, r)));
        }
        refuses(OLD, "times too great", 7, sums -> Twins.count(sums.times(0, 0)));
        refuses(OLD, "times too great", 7, sums -> Twins.count(sums.times(0, 1)));
        TurningSums sums = OLD.made();
        Due.is(sums, "times itself", sums.times(1, 1), true, 0);
        row(sums, 1, -5, 3);
        Due.is("nothing to redo", sums.told(5), 0);
        Due.is(sums, "times 0", sums.times(0, 3), true, 0);
        row(sums, 0, 0, 0);
        // One number of the row alone is too great: 10,000 z times 10,001 is; 100,000,000 (1 + z) times z is less 100,000,000.
        TurningSums row = Due.with("field f 7 order 3;let a in f be 10*10*10*10*z 1;let b in f be 10*10*10*10;let c in f be 1;"
            + "let d in f be 500*500*400+500*500*400*z 1;let e in f be 500*500*400-500*500*400*z 1;let g in f be z 1");
        row.take(0, 0);
        row.take(1, 1);
        row.take(2, 2);
        Due.is(row, "10,000 z times 10,000", row.times(0, 1), true, 0);
        row(row, 0, 0, HUNDRED);
        row.take(0, 0);
        row.add(1, 2, 1);
        Due.is(row, "10,000 z times 10,001", row.times(0, 1), false, 7);
        row.take(0, 3);
        row.take(1, 5);
        Due.is(row, "least row of what turns", row.times(0, 1), true, 0);
        row(row, 0, -HUNDRED, 0);
        row.take(0, 4);
        Due.is(row, "least row of what turns, too great", row.times(0, 1), false, 7);
        row(row, 0, HUNDRED, -HUNDRED);
    }

    private static void turn() {
        for (int r : NO_REGISTER) {
            refuses(OLD, "turn " + r, 1, sums -> Twins.count(sums.turn(r, 1)));
            refuses(OLD, "turn " + r + " by 0", 1, sums -> Twins.count(sums.turn(r, 0)));
        }
        for (int t : new int[] {-1, 0, 3, 4, 5, LEAST, MOST}) {
            refuses(OLD, "turn by " + t, 2, sums -> Twins.count(sums.turn(1, t)));
        }
        TurningSums sums = OLD.made();
        int acts = sums.told(4);
        Due.is(sums, "turn by 1", sums.turn(1, 1), true, 0);
        row(sums, 1, 2, 3);
        Due.is("an act", sums.told(4), acts + 1);
        Due.is("nothing to redo", sums.told(5), 0);
        Due.is(sums, "turn by 2", sums.turn(1, 2), true, 0);
        row(sums, 1, -1, -3);
        sums.choose(1);
        sums.take(0, 2);
        for (int t = 0; t <= 25; t++) {
            boolean good = t == 1 || t == 5 || t == 7 || t == 11;
            sums.take(0, 2);
            Due.is(sums, "turn by " + t, sums.turn(0, t), good, good ? 0 : 2);
        }
        sums.choose(2);
        Due.is(sums, "turn by 1 in order 2", sums.turn(0, 1), true, 0);
        Due.is(sums, "turn by 2 in order 2", sums.turn(0, 2), false, 2);
        Due.is(sums, "turn by 0 in order 2", sums.turn(0, 0), false, 2);
    }

    /** c(0) + c(1) z turned by 2 is c(0) - c(1) and -c(1). */
    private static void turnAtTheMost() {
        TurningSums sums = Due.with("field f 7 order 3;let a in f be 500*500*200-500*500*200*z 1;let b in f be 1;let c in f be 500*500*200*z 1-500*500*200;"
            + "let d in f be z 1");
        sums.take(0, 0);
        sums.take(1, 1);
        sums.take(2, 2);
        sums.take(3, 3);
        Due.is(sums, "turned, the most", sums.turn(0, 2), true, 0);
        row(sums, 0, HUNDRED, HUNDRED / 2);
        sums.undo();
        sums.add(0, 1, 1);
        int acts = sums.told(4);
        Due.is(sums, "turned, one more", sums.turn(0, 2), false, 7);
        row(sums, 0, HUNDRED / 2 + 1, -HUNDRED / 2);
        Due.is("no act", sums.told(4), acts);
        Due.is(sums, "not turned", sums.turn(0, 1), true, 0);
        Due.is(sums, "turned, the least", sums.turn(2, 2), true, 0);
        row(sums, 2, -HUNDRED, -HUNDRED / 2);
        sums.undo();
        sums.add(2, 3, 1);
        Due.is(sums, "turned, one less", sums.turn(2, 2), false, 7);
        row(sums, 2, -HUNDRED / 2, HUNDRED / 2 + 1);
    }

    private static void size() {
        for (int r : NO_REGISTER) {
            OLD.refuses("size " + r, 1, Due.NO_SIZE, sums -> sums.size(r));
        }
        OLD.answers("size 1", 7, sums -> sums.size(1));
        OLD.answers("size 3", 0, sums -> sums.size(3));
        OLD.refuses("size of the most", 7, Due.NO_SIZE, sums -> sums.size(0));
        TurningSums sums = Due.with(BOOK);
        sums.choose(2);
        sums.jacobi(2, 1, 1);
        sums.take(0, 4);
        sums.take(1, 5);
        sums.times(0, 1);
        sums.add(0, 2, 1);
        Due.is(sums, "an order of 2 has one turn: the most", sums.size(0), HUNDRED, 0);
        sums.add(0, 0, -2);
        Due.is(sums, "the least", sums.size(0), -HUNDRED, 0);
        sums.add(0, 0, -1);
        Due.is(sums, "0", sums.size(0), 0, 0);
        Due.is(sums, "1", sums.size(2), 1, 0);
        TurningSums wide = Due.with("field f 7 order 3;let a in f be 10*10*10*10;let b in f be 1;let c in f be 10*10*10*10*z 1;let d in f be z 1");
        wide.take(0, 0);
        wide.take(1, 1);
        Due.is(wide, "10,000 squared", wide.size(0), HUNDRED, 0);
        wide.add(0, 1, 1);
        Due.is(wide, "10,001 squared", wide.size(0), Due.NO_SIZE, 7);
        wide.add(0, 1, -2);
        Due.is(wide, "9,999 squared", wide.size(0), 99980001, 0);
        wide.take(0, 2);
        Due.is(wide, "10,000 z", wide.size(0), HUNDRED, 0);
        wide.add(0, 1, 1);
        Due.is(wide, "1 + 10,000 z", wide.size(0), 99990001, 0);
        wide.add(0, 1, -2);
        Due.is(wide, "10,000 z - 1", wide.size(0), Due.NO_SIZE, 7);
        Due.is("where: not by 4", wide.where(), -1);
    }

    /** What the turns are together so far is too great, or a later turn is, though all of them together are small. */
    private static void sizeOnTheWay() {
        // 1 + z is a unit of order 7: its powers grow, and what all turns of one are together is 1.
        TurningSums sums = Due.with("field f 29 order 7;let a in f be 1+z 1");
        sums.take(1, 0);
        sums.take(0, 0);
        int fell = 0;
        for (int power = 1; power < 40; power++) {
            long due = sizeOfSeven(sums);
            Due.is(sums, "size of power " + power, sums.size(0), due, due == Due.NO_SIZE ? 7 : 0);
            Due.is("a unit", due == 1 || due == Due.NO_SIZE, true);
            fell += due == Due.NO_SIZE ? 1 : 0;
            if (!sums.times(0, 1)) {
                break;
            }
        }
        Due.is("units that are too great on the way", fell > 1, true);
        // The register itself is in bounds, its second turn is not.
        TurningSums turned = Due.with("field f 7 order 3;let a in f be 500*500*400-500*500*400*z 1");
        turned.take(0, 0);
        Due.is(turned, "turned too great", turned.size(0), Due.NO_SIZE, 7);
    }

    /** All turns of register 0 in order 7, one by one. */
    private static long sizeOfSeven(TurningSums sums) {
        long[] row = new long[7];
        for (int i = 0; i < 6; i++) {
            row[i] = sums.register(0, i);
        }
        long[] all = {1, 0, 0, 0, 0, 0, 0};
        for (int t = 1; t <= 6; t++) {
            long[] turned = new long[7];
            long[] product = new long[7];
            for (int i = 0; i < 7; i++) {
                turned[i * t % 7] += row[i];
                for (int j = 0; j < 7; j++) {
                    product[(i + j * t) % 7] += all[i] * row[j];
                }
            }
            all = product;
            if (isTooGreat(turned) || isTooGreat(all)) {
                return Due.NO_SIZE;
            }
        }
        return all[0];
    }

    /** Makes the row least, and looks at it. */
    private static boolean isTooGreat(long[] row) {
        long last = row[6];
        boolean great = false;
        for (int i = 0; i < 7; i++) {
            row[i] -= last;
            great |= Math.abs(row[i]) > HUNDRED;
        }
        return great;
    }

    private static void undoAndRedo() {
        Twins book = new Twins(sums -> Due.book(sums, BOOK));
        refuses(book, "undo of no act", 6, sums -> Twins.count(sums.undo()));
        refuses(book, "redo of no act", 6, sums -> Twins.count(sums.redo()));
        Twins act = new Twins(sums -> {
            Due.book(sums, BOOK);
            sums.take(0, 1);
        });
        refuses(act, "redo of what was not undone", 6, sums -> Twins.count(sums.redo()));
        Twins undone = new Twins(sums -> {
            Due.book(sums, BOOK);
            sums.take(0, 1);
            sums.undo();
        });
        refuses(undone, "undo of what was undone", 6, sums -> Twins.count(sums.undo()));
        TurningSums sums = undone.made();
        row(sums, 0, 0, 0);
        Due.is(sums, "redo", sums.redo(), true, 0);
        row(sums, 0, 0, 1);
        Due.is("told(4)", sums.told(4), 1);
        Due.is("told(5)", sums.told(5), 0);
        Due.is(sums, "undo", sums.undo(), true, 0);
        row(sums, 0, 0, 0);
        Due.is("told(4)", sums.told(4), 0);
        Due.is("told(5)", sums.told(5), 1);
    }

    private static void twentyActs() {
        for (int acts : new int[] {19, 20, 21, 22, 40, 41, 42, 43}) {
            TurningSums sums = Due.with(BOOK);
            for (int i = 1; i <= acts; i++) {
                sums.jacobi(1, 1, 1);
                sums.undo();
                sums.redo();
                sums.undo();
                // Just one act remains of a round.
                Due.is(sums, "act " + i, sums.choose(i % 2), true, 0);
                Due.is("told(4)", sums.told(4), Math.min(i, 20));
            }
            int most = Math.min(acts, 20);
            for (int i = 0; i < most; i++) {
                Due.is("field " + i + " acts ago", sums.told(3), (acts - i) % 2);
                Due.is(sums, "undo " + i, sums.undo(), true, 0);
                Due.is("told(4)", sums.told(4), most - i - 1);
                Due.is("told(5)", sums.told(5), i + 1);
            }
            Due.is("the oldest field", sums.told(3), acts <= 20 ? 0 : (acts - 20) % 2);
            Due.is(sums, "undo of a 21st", sums.undo(), false, 6);
            Due.is("told(5)", sums.told(5), most);
            for (int i = 0; i < most; i++) {
                Due.is("redo " + i, sums.redo(), true);
            }
            Due.is(sums, "redo of a 21st", sums.redo(), false, 6);
            Due.is("told(4)", sums.told(4), most);
            Due.is("the latest field", sums.told(3), acts % 2);
        }
        refuses(FULL, "redo of none", 6, sums -> Twins.count(sums.redo()));
        refuses(FULL, "an act that is none", 1, sums -> Twins.count(sums.take(4, 0)));
        refuses(FULL, "an act of another field", 5, sums -> Twins.count(sums.take(0, 0)));
        Twins allUndone = new Twins(sums -> {
            fullPast(sums);
            for (int i = 0; i < 20; i++) {
                sums.undo();
            }
        });
        refuses(allUndone, "undo of a 21st", 6, sums -> Twins.count(sums.undo()));
        refuses(allUndone, "an act that is none", 2, sums -> Twins.count(sums.turn(0, 2)));
        TurningSums sums = allUndone.made();
        row(sums, 0, 0);
        row(sums, 1, 9);
        Due.is("redo", sums.told(5), 20);
        Due.is(sums, "another act", sums.add(0, 1, 100), true, 0);
        Due.is("redo is forgotten", sums.told(5), 0);
        Due.is("undo", sums.told(4), 1);
        Due.is(sums, "undo", sums.undo(), true, 0);
        row(sums, 0, 0);
        Due.is(sums, "undo", sums.undo(), false, 6);
    }

    /** Acts far more than there is room for, undone and redone in runs of every length. */
    private static void roundAndRound() {
        for (int back = 0; back <= 21; back++) {
            TurningSums sums = Due.with("field f 3 order 2;let a in f be 1");
            sums.take(1, 0);
            int value = 0;
            for (int round = 0; round < 4; round++) {
                for (int i = 0; i < 23; i++) {
                    sums.add(0, 1, 1);
                    value++;
                }
                int can = Math.min(back, 20);
                for (int i = 0; i < back; i++) {
                    Due.is("undo", sums.undo(), i < 20);
                }
                Due.is("undone " + can, sums.register(0, 0), value - can);
                Due.is("told(4)", sums.told(4), 20 - can);
                Due.is("told(5)", sums.told(5), can);
                for (int i = 0; i < can / 2; i++) {
                    Due.is("redo", sums.redo(), true);
                }
                value = value - can + can / 2;
                Due.is("redone", sums.register(0, 0), value);
            }
        }
    }

    private static void redoIsForgotten() {
        Twins.Call[] acts = {sums -> Twins.count(sums.choose(0)), sums -> Twins.count(sums.take(0, 0)), sums -> Twins.count(sums.jacobi(0, 0, 0)),
            sums -> Twins.count(sums.add(0, 0, 0)), sums -> Twins.count(sums.times(3, 3)), sums -> Twins.count(sums.turn(0, 1)),
            sums -> Twins.count(sums.restore(1))};
        for (int i = 0; i < acts.length; i++) {
            TurningSums sums = OLD.made();
            int before = sums.told(4);
            Due.is("redo there is", sums.told(5), 2);
            Due.is(sums, "act " + i, acts[i].of(sums), 1, 0);
            Due.is("redo is forgotten by act " + i, sums.told(5), 0);
            Due.is("one to undo more by act " + i, sums.told(4), before + 1);
            Due.is(sums, "redo", sums.redo(), false, 6);
            Due.is(sums, "undo", sums.undo(), true, 0);
            row(sums, 0, HUNDRED, 0);
            row(sums, 2, -HUNDRED, 0);
        }
        Twins.Call[] none = {sums -> sums.image(), sums -> sums.size(1), sums -> sums.register(0, 0), sums -> sums.told(4), sums -> sums.feed(0, 0, 0, 0, 0)};
        for (int i = 0; i < none.length; i++) {
            TurningSums sums = OLD.made();
            int before = sums.told(4);
            none[i].of(sums);
            Due.is("no act " + i, sums.told(4), before);
            Due.is("redo stays behind no act " + i, sums.told(5), 2);
        }
    }

    private static void images() {
        TurningSums sums = Due.with(BOOK);
        for (int i = 0; i < 4; i++) {
            Due.is("images", sums.told(6), i);
            Due.is(sums, "image", sums.image(), i, 0);
        }
        for (int i = 0; i < 3; i++) {
            Due.is(sums, "a fifth image", sums.image(), -1, 3);
            Due.is("images", sums.told(6), 4);
        }
        FULL.refuses("a fifth image", 3, -1, one -> one.image());
        FULL.leaves("told(6)", 4, one -> one.told(6));
        Due.is("a new book", Due.book(sums, BOOK), 3);
        Due.is("no images", sums.told(6), 0);
        Due.is(sums, "restore", sums.restore(0), false, 1);
        Due.is(sums, "image", sums.image(), 0, 0);
    }

    private static void restore() {
        for (int image : new int[] {-1, 2, 3, 4, LEAST, MOST}) {
            refuses(OLD, "restore " + image, 1, sums -> Twins.count(sums.restore(image)));
        }
        for (int image : new int[] {-1, 4, 5, LEAST, MOST}) {
            refuses(FULL, "restore " + image, 1, sums -> Twins.count(sums.restore(image)));
        }
        TurningSums sums = FULL.made();
        for (int image = 3; image >= 0; image--) {
            Due.is(sums, "restore " + image, sums.restore(image), true, 0);
            row(sums, 0, 9 * (image + 1));
            row(sums, 1, 9);
            Due.is("all images stay", sums.told(6), 4);
            Due.is("acts", sums.told(4), 20);
        }
        for (int image = 1; image <= 3; image++) {
            Due.is(sums, "undo", sums.undo(), true, 0);
            row(sums, 0, 9 * (image + 1));
        }
        Due.is(sums, "undo", sums.undo(), true, 0);
        row(sums, 0, 180);
        Due.is("images stay when their acts are undone", sums.told(6), 4);
    }

    private static void imagesOfAnotherField() {
        TurningSums sums = Due.with(BOOK);
        sums.take(3, 1);
        Due.is(sums, "image of the first field", sums.image(), 0, 0);
        sums.choose(1);
        sums.take(2, 2);
        Due.is(sums, "image of the second", sums.image(), 1, 0);
        Due.is(sums, "restore", sums.restore(0), true, 0);
        Due.is("told(3)", sums.told(3), 0);
        row(sums, 3, 0, 1);
        row(sums, 2, 0, 0);
        Due.is(sums, "an act behind it", sums.add(3, 3, 1), true, 0);
        Due.is(sums, "restore again", sums.restore(0), true, 0);
        row(sums, 3, 0, 1);
        Due.is(sums, "restore the second", sums.restore(1), true, 0);
        Due.is("told(3)", sums.told(3), 1);
        row(sums, 2, 0, -500, 0, 0);
        row(sums, 3, 0, 0, 0, 0);
        sums.undo();
        Due.is("told(3)", sums.told(3), 0);
        sums.redo();
        Due.is("told(3)", sums.told(3), 1);
        row(sums, 2, 0, -500, 0, 0);
    }

    private static void told() {
        for (int what : new int[] {-1, 8, 9, LEAST, MOST}) {
            OLD.leaves("told " + what, -1, sums -> sums.told(what));
            FULL.leaves("told " + what, -1, sums -> sums.told(what));
        }
        int[] old = {3, 0, 7, 0, 5, 2, 2, 20};
        int[] full = {3, 0, 7, 2, 20, 0, 4, 0};
        for (int what = 0; what <= 7; what++) {
            int asked = what;
            OLD.leaves("told " + what, old[what], sums -> sums.told(asked));
            FULL.leaves("told " + what, full[what], sums -> sums.told(asked));
        }
    }

    /** Each number of trouble, and that what tells none leaves it. */
    private static void everyTrouble() {
        Twins.Call[] calls = {sums -> sums.field(0, 0), sums -> sums.field(9, 0), sums -> sums.log(0, 0), sums -> sums.image(),
            sums -> Due.book(sums, "field"), sums -> sums.law(0, 0, 0, 1), sums -> Twins.count(sums.redo()), sums -> Twins.count(sums.add(0, 0, 1))};
        for (int trouble = 0; trouble <= 7; trouble++) {
            int latest = trouble;
            Twins twins = new Twins(sums -> {
                Due.book(sums, BOOK);
                for (int i = 0; i < 4; i++) {
                    sums.image();
                }
                sums.take(0, 0);
                calls[latest].of(sums);
            });
            Due.is("trouble", twins.made().trouble(), trouble);
            Due.is("where", twins.made().where(), trouble == 4 ? 5 : -1);
            twins.leaves("trouble", trouble, sums -> sums.trouble());
            twins.leaves("where", trouble == 4 ? 5 : -1, sums -> sums.where());
            twins.leaves("fault", trouble == 4 ? 1 : 0, sums -> sums.fault());
            twins.leaves("told", twins.made().told(6), sums -> sums.told(6));
            twins.leaves("told of none", -1, sums -> sums.told(-1));
            twins.leaves("led", 1, sums -> Twins.led(sums, 0, 0));
            twins.leaves("led of none", Twins.THROWN, sums -> Twins.led(sums, 0, -1));
            TurningSums fed = twins.made();
            fed.feed(0, 0, 0, 0, 0);
            Due.is("trouble behind feed", fed.trouble(), trouble);
            Due.is("where behind feed", fed.where(), trouble == 4 ? 5 : -1);
            Due.is(fed, "an answer", fed.sign(0, 3), 0, 0);
            Due.is("where behind an answer", fed.where(), -1);
        }
    }
}
