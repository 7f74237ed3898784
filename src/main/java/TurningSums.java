import java.util.NoSuchElementException;

public final class TurningSums {
    public static final int NONE = -1;

    private static final int NONE_SUCH = 1;
    private static final int BAD_NUMBER = 2;
    private static final int NO_ROOM = 3;
    private static final int FAULTY = 4;
    private static final int NOT_SO = 5;
    private static final int NOTHING_LEFT = 6;
    private static final int TOO_HUGE = 7;

    private static final int ABSENT = -2;
    private static final int NO_SUM = -1000;
    private static final int NO_NUMBER = -1000000000;
    private static final long NO_SIZE = -9223372036854775808L;

    private final Reader reader = new Reader();
    private final Ring ring = new Ring();
    private final Registers registers = new Registers();
    private final SignRow signs = new SignRow();
    private final long[] first = new long[Ring.LONGEST];
    private final long[] second = new long[Ring.LONGEST];
    private final long[] third = new long[Ring.LONGEST];
    private final long[] fourth = new long[Ring.LONGEST];
    private Book now = new Book();
    private int lastFault = 0;
    private int faultPlace = NONE;
    private int refusal = 0;

    public TurningSums() {
    }

    // ---- the book

    public int feed(int a, int b, int c, int d, int e) {
        Tape tape = reader.tape();
        if (!tape.hasRoom(20)) {
            return NONE;
        }
        tape.append(a);
        tape.append(b);
        tape.append(c);
        tape.append(d);
        tape.append(e);
        return tape.bytesHeld();
    }

    public int book(int n) {
        if (n < 0 || n > reader.tape().bytesHeld()) {
            return refused(BAD_NUMBER, NONE);
        }
        lastFault = reader.read(n);
        faultPlace = reader.faultPlace();
        reader.tape().empty();
        if (lastFault != 0) {
            return refused(FAULTY, NONE);
        }
        now = reader.exchange(now);
        registers.restart();
        return answered(now.fieldsHeld());
    }

    public int fault() {
        return lastFault;
    }

    public int where() {
        return refusal == FAULTY ? faultPlace : NONE;
    }

    // ---- fields

    public int field(int f, int what) {
        Field field = now.fieldAt(f);
        if (field == null || what < 0 || what > 3) {
            return refused(NONE_SUCH, NONE);
        }
        switch (what) {
            case 0:
                return answered(field.prime());
            case 1:
                return answered(field.order());
            case 2:
                return answered(field.root());
            default:
                return answered(field.rowLength());
        }
    }

    public int log(int f, int x) {
        Field field = now.fieldAt(f);
        if (field == null) {
            return refused(NONE_SUCH, NONE);
        }
        if (!field.hasUnit(x)) {
            return refused(BAD_NUMBER, NONE);
        }
        return answered(field.logOf(x));
    }

    public int character(int f, int a, int x) {
        Field field = now.fieldAt(f);
        if (field == null || !field.hasCharacter(a)) {
            return refused(NONE_SUCH, NONE);
        }
        if (!field.hasNumber(x)) {
            return refused(BAD_NUMBER, NONE);
        }
        return answered(field.characterAt(a, x));
    }

    public int sum(int f, int a, int b, int i) {
        Field field = now.fieldAt(f);
        if (!hasSum(field, a, b) || i < 0 || i >= field.rowLength()) {
            return refused(NONE_SUCH, NO_SUM);
        }
        field.jacobiSum(a, b, ring, first);
        return answered((int) Rows.at(first, i));
    }

    public int norm(int f, int a, int b) {
        Field field = now.fieldAt(f);
        if (!hasSum(field, a, b)) {
            return refused(NONE_SUCH, NONE);
        }
        int order = field.order();
        field.jacobiSum(a, b, ring, first);
        ring.turnRow(first, order - 1, second, order);
        ring.multiply(first, second, third, order);
        return answered(Rows.isWhole(third) ? (int) Rows.at(third, 0) : ABSENT);
    }

    public int relation(int f, int a, int b, int c) {
        Field field = now.fieldAt(f);
        if (!hasSum(field, a, b) || !field.hasCharacter(c)) {
            return refused(NONE_SUCH, NONE);
        }
        int order = field.order();
        field.jacobiSum(a, b, ring, first);
        field.jacobiSum(Rows.mod(a + b, order), c, ring, second);
        ring.multiply(first, second, third, order);
        field.jacobiSum(b, c, ring, first);
        field.jacobiSum(a, Rows.mod(b + c, order), ring, second);
        ring.multiply(first, second, fourth, order);
        return answered(Rows.same(third, fourth) ? 1 : 0);
    }

    public int part(int f, int a, int b, int t) {
        Field field = now.fieldAt(f);
        if (!hasSum(field, a, b)) {
            return refused(NONE_SUCH, NONE);
        }
        if (!field.hasTurn(t)) {
            return refused(BAD_NUMBER, NONE);
        }
        field.jacobiSum(a, b, ring, first);
        return answered(field.partOf(first, t));
    }

    public int law(int f, int a, int b, int t) {
        Field field = now.fieldAt(f);
        if (!hasSum(field, a, b)) {
            return refused(NONE_SUCH, NONE);
        }
        if (!field.hasTurn(t)) {
            return refused(BAD_NUMBER, NONE);
        }
        int order = field.order();
        if (a == 0 || b == 0 || a + b == order) {
            return refused(NOT_SO, NONE);
        }
        return answered(Rows.mod(t * a, order) + Rows.mod(t * b, order) < order ? 1 : 0);
    }

    public int parts(int f, int a, int b) {
        Field field = now.fieldAt(f);
        if (!hasSum(field, a, b)) {
            return refused(NONE_SUCH, NONE);
        }
        field.jacobiSum(a, b, ring, first);
        int zeros = 0;
        for (int t = 1; t < field.order(); t++) {
            if (field.hasTurn(t) && field.partOf(first, t) == 0) {
                zeros++;
            }
        }
        return answered(zeros);
    }

    // ---- lets

    public int let(int l, int i) {
        Field field = now.fieldAt(now.letFieldAt(l));
        if (field == null || i < 0 || i >= field.rowLength()) {
            return refused(NONE_SUCH, NO_NUMBER);
        }
        return answered((int) Rows.at(now.letRowAt(l), i));
    }

    public int letField(int l) {
        int f = now.letFieldAt(l);
        return f < 0 ? refused(NONE_SUCH, NONE) : answered(f);
    }

    public int letPart(int l, int t) {
        Field field = now.fieldAt(now.letFieldAt(l));
        if (field == null) {
            return refused(NONE_SUCH, NONE);
        }
        if (!field.hasTurn(t)) {
            return refused(BAD_NUMBER, NONE);
        }
        return answered(field.partOf(now.letRowAt(l), t));
    }

    public int whole(int l) {
        if (now.letFieldAt(l) < 0) {
            return refused(NONE_SUCH, NONE);
        }
        return answered(Rows.isWhole(now.letRowAt(l)) ? 1 : 0);
    }

    // ---- counts

    public int count(int equation) {
        Equation asked = now.equationAt(equation);
        if (asked == null) {
            return refused(NONE_SUCH, NONE);
        }
        return answered(asked.ways(asked.result()));
    }

    public int countOf(int equation, int is) {
        Equation asked = now.equationAt(equation);
        if (asked == null) {
            return refused(NONE_SUCH, NONE);
        }
        if (is < 0 || is >= asked.prime()) {
            return refused(BAD_NUMBER, NONE);
        }
        return answered(asked.ways(is));
    }

    public long curve(int f, int k) {
        Field field = now.fieldAt(f);
        if (field == null) {
            return refused(NONE_SUCH, NONE);
        }
        if (k < 1 || k > 4) {
            return refused(BAD_NUMBER, NONE);
        }
        refusal = 0;
        return field.pointsOfCurve(k, ring, first, second);
    }

    // ---- squares, forms, classes

    public int sign(int x, int p) {
        if (!Squares.isOddPrime(p)) {
            return refused(NONE_SUCH, ABSENT);
        }
        return answered(Squares.signOf(x, p));
    }

    public int both(int p, int q) {
        if (!Squares.isOddPrime(p) || !Squares.isOddPrime(q) || p == q) {
            return refused(NONE_SUCH, ABSENT);
        }
        return answered(Squares.signOf(p, q) * Squares.signOf(q, p));
    }

    public int form(int p, int d) {
        if (!Squares.isOddPrime(p)) {
            return refused(NONE_SUCH, NONE);
        }
        if (d < 1 || d > 99) {
            return refused(BAD_NUMBER, NONE);
        }
        return answered(Squares.leastForm(p, d));
    }

    public int power(int f, int x, int k) {
        Field field = now.fieldAt(f);
        if (field == null) {
            return refused(NONE_SUCH, NONE);
        }
        if (!field.hasUnit(x) || k < 1 || k > 12) {
            return refused(BAD_NUMBER, NONE);
        }
        return answered(field.isPower(x, k) ? 1 : 0);
    }

    public int classSums(int p) {
        if (p < 7 || p % 4 != 3 || !Squares.isOddPrime(p)) {
            return refused(BAD_NUMBER, NONE);
        }
        return answered(Squares.classBySums(p));
    }

    public int classForms(int d) {
        if (d < 3 || d > 999 || d % 4 == 1 || d % 4 == 2) {
            return refused(BAD_NUMBER, NONE);
        }
        return answered(Squares.classByForms(d));
    }

    // ---- classes of powers, rows of signs

    public int meets(int f, int i, int j) {
        Field field = now.fieldAt(f);
        if (!hasSum(field, i, j)) {
            return refused(NONE_SUCH, NONE);
        }
        return answered(field.meetings(i, j));
    }

    public int even(int f) {
        Field field = now.fieldAt(f);
        if (field == null) {
            return refused(NONE_SUCH, NONE);
        }
        return answered(field.evenness());
    }

    public int echo(int f, int r, int s) {
        Field field = now.fieldAt(f);
        if (field == null) {
            return refused(NONE_SUCH, NO_SUM);
        }
        if (!field.hasNumber(r) || !field.hasNumber(s)) {
            return refused(BAD_NUMBER, NO_SUM);
        }
        signs.become(field);
        return answered(signs.echoAt(r, s));
    }

    public long noise(int f, int r) {
        Field field = now.fieldAt(f);
        if (field == null) {
            return refused(NONE_SUCH, NONE);
        }
        if (!field.hasNumber(r)) {
            return refused(BAD_NUMBER, NONE);
        }
        refusal = 0;
        signs.become(field);
        return signs.noiseAt(r);
    }

    public int lowest(int f) {
        Field field = now.fieldAt(f);
        if (field == null) {
            return refused(NONE_SUCH, NONE);
        }
        signs.become(field);
        return answered(signs.leastNoisy());
    }

    // ---- registers

    public boolean choose(int f) {
        if (now.fieldAt(f) == null) {
            return denied(NONE_SUCH);
        }
        registers.beginAct();
        registers.clearTo(f);
        return granted();
    }

    public int register(int r, int i) {
        Field field = fieldOfRegister(r);
        if (field == null || i < 0 || i >= field.rowLength()) {
            return refused(NONE_SUCH, NO_NUMBER);
        }
        registers.copyOut(r, first);
        return answered((int) Rows.at(first, i));
    }

    public boolean take(int r, int l) {
        int f = now.letFieldAt(l);
        if (fieldOfRegister(r) == null || f < 0) {
            return denied(NONE_SUCH);
        }
        if (f != registers.fieldNow()) {
            return denied(NOT_SO);
        }
        return keep(r, now.letRowAt(l));
    }

    public boolean jacobi(int r, int a, int b) {
        Field field = fieldOfRegister(r);
        if (!hasSum(field, a, b)) {
            return denied(NONE_SUCH);
        }
        field.jacobiSum(a, b, ring, first);
        return keep(r, first);
    }

    public boolean add(int r, int s, int k) {
        if (fieldOfRegister(r) == null || fieldOfRegister(s) == null) {
            return denied(NONE_SUCH);
        }
        if (k < -999 || k > 999) {
            return denied(BAD_NUMBER);
        }
        registers.copyOut(r, first);
        registers.copyOut(s, second);
        Rows.addTimes(first, second, k);
        return keep(r, first);
    }

    public boolean times(int r, int s) {
        Field field = fieldOfRegister(r);
        if (field == null || fieldOfRegister(s) == null) {
            return denied(NONE_SUCH);
        }
        registers.copyOut(r, first);
        registers.copyOut(s, second);
        ring.multiply(first, second, third, field.order());
        return keep(r, third);
    }

    public boolean turn(int r, int t) {
        Field field = fieldOfRegister(r);
        if (field == null) {
            return denied(NONE_SUCH);
        }
        if (!field.hasTurn(t)) {
            return denied(BAD_NUMBER);
        }
        registers.copyOut(r, first);
        ring.turnRow(first, t, second, field.order());
        return keep(r, second);
    }

    public long size(int r) {
        Field field = fieldOfRegister(r);
        if (field == null) {
            refusal = NONE_SUCH;
            return NO_SIZE;
        }
        registers.copyOut(r, first);
        if (!multiplyTurns(field)) {
            refusal = TOO_HUGE;
            return NO_SIZE;
        }
        refusal = 0;
        return Rows.at(third, 0);
    }

    public boolean undo() {
        return registers.stepBack() ? granted() : denied(NOTHING_LEFT);
    }

    public boolean redo() {
        return registers.stepOn() ? granted() : denied(NOTHING_LEFT);
    }

    public int image() {
        if (now.fieldsHeld() == 0) {
            return refused(NONE_SUCH, NONE);
        }
        int number = registers.imagesHeld();
        return registers.keepImage() ? answered(number) : refused(NO_ROOM, NONE);
    }

    public boolean restore(int image) {
        if (image < 0 || image >= registers.imagesHeld()) {
            return denied(NONE_SUCH);
        }
        registers.beginAct();
        registers.bringBack(image);
        return granted();
    }

    public int led(int f, int i) throws NoSuchElementException {
        Field field = now.fieldAt(f);
        int x = field == null ? NONE : field.powerOfRank(i);
        if (x < 0) {
            throw new NoSuchElementException("no such power");
        }
        return x;
    }

    public int told(int what) {
        switch (what) {
            case 0:
                return now.fieldsHeld();
            case 1:
                return now.equationsHeld();
            case 2:
                return now.letsHeld();
            case 3:
                return registers.fieldNow();
            case 4:
                return registers.actsToUndo();
            case 5:
                return registers.actsToRedo();
            case 6:
                return registers.imagesHeld();
            case 7:
                return reader.tape().bytesHeld();
            default:
                return NONE;
        }
    }

    public int trouble() {
        return refusal;
    }

    private int refused(int why, int answer) {
        refusal = why;
        return answer;
    }

    private int answered(int answer) {
        refusal = 0;
        return answer;
    }

    private boolean denied(int why) {
        refusal = why;
        return false;
    }

    private boolean granted() {
        refusal = 0;
        return true;
    }

    private static boolean hasSum(Field field, int a, int b) {
        return field != null && field.hasCharacter(a) && field.hasCharacter(b);
    }

    private Field fieldOfRegister(int r) {
        return registers.has(r) ? now.fieldAt(registers.fieldNow()) : null;
    }

    private boolean keep(int r, long[] row) {
        if (Rows.isHuge(row)) {
            return denied(TOO_HUGE);
        }
        registers.beginAct();
        registers.copyIn(r, row);
        return granted();
    }

    /** Leaves in the third row what all turns of the first are together; false as soon as one row is too great. */
    private boolean multiplyTurns(Field field) {
        int order = field.order();
        Rows.setWhole(third, 1);
        for (int t = 1; t < order; t++) {
            if (field.hasTurn(t)) {
                ring.turnRow(first, t, second, order);
                ring.multiply(third, second, third, order);
                if (Rows.isHuge(second) || Rows.isHuge(third)) {
                    return false;
                }
            }
        }
        return true;
    }

    /** Rows of numbers that may be asked for any place: outside them stands 0 and nothing is written. */
    static final class Rows {
        private static final long MOST = 100000000L;

        static long at(long[] row, int i) {
            return row != null && i >= 0 && i < row.length ? row[i] : 0L;
        }

        static void put(long[] row, int i, long value) {
            if (row != null && i >= 0 && i < row.length) {
                row[i] = value;
            }
        }

        static int cell(int[] row, int i) {
            return row != null && i >= 0 && i < row.length ? row[i] : 0;
        }

        static void mark(int[] row, int i, int value) {
            if (row != null && i >= 0 && i < row.length) {
                row[i] = value;
            }
        }

        static long[] rowAt(long[][] rows, int i) {
            return rows != null && i >= 0 && i < rows.length ? rows[i] : null;
        }

        static int mod(long x, int by) {
            if (by < 1) {
                return 0;
            }
            int rest = (int) (x % by);
            return rest < 0 ? rest + by : rest;
        }

        static void setWhole(long[] row, long value) {
            for (int i = 0; row != null && i < row.length; i++) {
                row[i] = i == 0 ? value : 0L;
            }
        }

        static void copy(long[] from, long[] to) {
            for (int i = 0; to != null && i < to.length; i++) {
                to[i] = from != null && i < from.length ? from[i] : 0L;
            }
        }

        static void addTimes(long[] row, long[] other, long k) {
            for (int i = 0; row != null && i < row.length; i++) {
                row[i] += other != null && i < other.length ? k * other[i] : 0L;
            }
        }

        static boolean same(long[] row, long[] other) {
            if (row == null || other == null || row.length != other.length) {
                return false;
            }
            for (int i = 0; i < row.length; i++) {
                if (row[i] != other[i]) {
                    return false;
                }
            }
            return true;
        }

        static boolean isWhole(long[] row) {
            for (int i = 1; row != null && i < row.length; i++) {
                if (row[i] != 0L) {
                    return false;
                }
            }
            return true;
        }

        static boolean isHuge(long[] row) {
            for (int i = 0; row != null && i < row.length; i++) {
                if (row[i] > MOST || row[i] < -MOST) {
                    return true;
                }
            }
            return false;
        }
    }

    /** Reckons with the least rows of the numbers that z, of an order 2 .. 12, makes. */
    static final class Ring {
        static final int LONGEST = 10;
        private static final int MOST_ORDER = 12;
        private static final int WIDTH = 11;
        private static final int[] LENGTHS = {0, 1, 1, 2, 2, 4, 2, 6, 4, 6, 4, 10, 4};
        // Line n is the least polynomial that z of order n solves, its constant first; the highest power stands once.
        private static final int[] LEAST = {
            0, 0, 0, 0, 0, 0, 0, 0, 0, 0, 0,
            -1, 1, 0, 0, 0, 0, 0, 0, 0, 0, 0,
            1, 1, 0, 0, 0, 0, 0, 0, 0, 0, 0,
            1, 1, 1, 0, 0, 0, 0, 0, 0, 0, 0,
            1, 0, 1, 0, 0, 0, 0, 0, 0, 0, 0,
            1, 1, 1, 1, 1, 0, 0, 0, 0, 0, 0,
            1, -1, 1, 0, 0, 0, 0, 0, 0, 0, 0,
            1, 1, 1, 1, 1, 1, 1, 0, 0, 0, 0,
            1, 0, 0, 0, 1, 0, 0, 0, 0, 0, 0,
            1, 0, 0, 1, 0, 0, 1, 0, 0, 0, 0,
            1, -1, 1, -1, 1, 0, 0, 0, 0, 0, 0,
            1, 1, 1, 1, 1, 1, 1, 1, 1, 1, 1,
            1, 0, -1, 0, 1, 0, 0, 0, 0, 0, 0};

        // One number for each power of z; collected in full ahead of any answer, so that an answer may replace what it came from.
        private final long[] powers = new long[MOST_ORDER];

        static int lengthOf(int order) {
            return order >= 0 && order < LENGTHS.length ? LENGTHS[order] : 0;
        }

        void clear() {
            Rows.setWhole(powers, 0);
        }

        void collect(int power, long much, int order) {
            int place = order < 1 ? NONE : Math.floorMod(power, order);
            if (place >= 0 && place < powers.length) {
                powers[place] += much;
            }
        }

        void settle(long[] out, int order) {
            int length = lengthOf(order);
            for (int high = order - 1; high >= length; high--) {
                long much = Rows.at(powers, high);
                for (int i = 0; i <= length; i++) {
                    int place = high - length + i;
                    Rows.put(powers, place, Rows.at(powers, place) - much * Rows.cell(LEAST, order * WIDTH + i));
                }
            }
            Rows.copy(powers, out);
        }

        void multiply(long[] one, long[] other, long[] out, int order) {
            int length = lengthOf(order);
            clear();
            for (int i = 0; i < length; i++) {
                for (int j = 0; j < length; j++) {
                    collect(i + j, Rows.at(one, i) * Rows.at(other, j), order);
                }
            }
            settle(out, order);
        }

        void turnRow(long[] row, int t, long[] out, int order) {
            int length = lengthOf(order);
            clear();
            for (int i = 0; i < length; i++) {
                collect(i * t, Rows.at(row, i), order);
            }
            settle(out, order);
        }

        void powerOfZ(int power, long[] out, int order) {
            clear();
            collect(power, 1, order);
            settle(out, order);
        }
    }

    /** A field of a small prime with the characters of one order. */
    static final class Field {
        private static final int MOST_PRIME = 199;

        private final int[] logs = new int[MOST_PRIME];
        private final int[] powers = new int[MOST_PRIME];
        private final int[] seen = new int[MOST_PRIME];
        private int prime = 0;
        private int order = 0;

        void become(int itsPrime, int itsOrder) {
            prime = itsPrime;
            order = itsOrder;
            for (int g = 2; g < prime; g++) {
                if (fillPowers(g)) {
                    return;
                }
            }
        }

        /** False if the powers come round before they have met every number. */
        private boolean fillPowers(int g) {
            int value = 1;
            for (int e = 0; e < prime - 1; e++) {
                if (e > 0 && value == 1) {
                    return false;
                }
                Rows.mark(powers, e, value);
                Rows.mark(logs, value, e);
                value = Rows.mod(value * g, prime);
            }
            return true;
        }

        int prime() {
            return prime;
        }

        int order() {
            return order;
        }

        int root() {
            // A prime of 3 has the powers 1, 2: so there is always a first power.
            return Rows.cell(powers, 1);
        }

        int rowLength() {
            return Ring.lengthOf(order);
        }

        boolean hasUnit(int x) {
            return x > 0 && x < prime;
        }

        boolean hasNumber(int x) {
            return x >= 0 && x < prime;
        }

        boolean hasCharacter(int a) {
            return a >= 0 && a < order;
        }

        boolean hasTurn(int t) {
            return t > 0 && t < order && Squares.commonPart(t, order) == 1;
        }

        int logOf(int x) {
            return Rows.cell(logs, x);
        }

        int characterAt(int a, int x) {
            if (x == 0) {
                return a == 0 ? 0 : ABSENT;
            }
            return Rows.mod(a * Rows.cell(logs, x), order);
        }

        void jacobiSum(int a, int b, Ring ring, long[] out) {
            ring.clear();
            for (int x = 0; x < prime; x++) {
                int left = characterAt(a, x);
                int right = characterAt(b, Rows.mod(1 - x, prime));
                if (left != ABSENT && right != ABSENT) {
                    ring.collect(left + right, 1, order);
                }
            }
            ring.settle(out, order);
        }

        int partOf(long[] row, int t) {
            int step = order < 1 ? 0 : (prime - 1) / order;
            long z = Rows.cell(powers, Rows.mod(t * step, prime - 1));
            long value = 0;
            for (int i = rowLength() - 1; i >= 0; i--) {
                value = Rows.mod(value * z + Rows.at(row, i), prime);
            }
            return (int) value;
        }

        boolean isPower(int x, int k) {
            return Rows.mod(logOf(x), Squares.commonPart(k, prime - 1)) == 0;
        }

        int meetings(int i, int j) {
            int all = 0;
            for (int x = 1; x < prime - 1; x++) {
                if (Rows.mod(logOf(x), order) == i && Rows.mod(logOf(x + 1), order) == j) {
                    all++;
                }
            }
            return all;
        }

        private boolean isOrderPower(int x) {
            return Rows.mod(logOf(x), order) == 0;
        }

        int evenness() {
            for (int d = 0; d < prime; d++) {
                Rows.mark(seen, d, 0);
            }
            for (int x = 1; x < prime; x++) {
                for (int y = 1; y < prime && isOrderPower(x); y++) {
                    if (isOrderPower(y)) {
                        int d = Rows.mod(x - y, prime);
                        Rows.mark(seen, d, Rows.cell(seen, d) + 1);
                    }
                }
            }
            int often = Rows.cell(seen, 1);
            for (int d = 2; d < prime; d++) {
                if (Rows.cell(seen, d) != often) {
                    return ABSENT;
                }
            }
            return often;
        }

        int powerOfRank(int rank) {
            int met = 0;
            for (int x = 1; x < prime; x++) {
                if (isOrderPower(x)) {
                    if (met == rank) {
                        return x;
                    }
                    met++;
                }
            }
            return NONE;
        }

        /** What all characters give is whole, so the first numbers of the rows are enough. */
        long pointsOfCurve(int k, Ring ring, long[] one, long[] raised) {
            long points = 1;
            for (int i = 0; i < k; i++) {
                points *= prime;
            }
            for (int a = 1; a < order; a++) {
                for (int b = 1; b < order; b++) {
                    points += a + b == order ? oppositePair(a, k) : liftedSum(a, b, k, ring, one, raised);
                }
            }
            return points;
        }

        private int oppositePair(int a, int k) {
            boolean minusOneTurns = characterAt(a, prime - 1) != 0;
            return minusOneTurns && k % 2 == 1 ? 1 : -1;
        }

        private long liftedSum(int a, int b, int k, Ring ring, long[] one, long[] raised) {
            jacobiSum(a, b, ring, one);
            Rows.copy(one, raised);
            for (int i = 1; i < k; i++) {
                ring.multiply(raised, one, raised, order);
            }
            return k % 2 == 0 ? -Rows.at(raised, 0) : Rows.at(raised, 0);
        }
    }

    /** Powers of unknowns that are to make up a number. */
    static final class Equation {
        static final int MOST_TERMS = 3;

        private final int[] factors = new int[MOST_TERMS];
        private final int[] exponents = new int[MOST_TERMS];
        private final long[] waysSoFar = new long[Field.MOST_PRIME];
        private final long[] waysNext = new long[Field.MOST_PRIME];
        private int prime = 0;
        private int terms = 0;
        private int result = 0;

        void begin(int itsPrime) {
            prime = itsPrime;
            terms = 0;
        }

        void append(int factor, int exponent) {
            Rows.mark(factors, terms, factor);
            Rows.mark(exponents, terms, exponent);
            terms++;
        }

        void close(int itsResult) {
            result = itsResult;
        }

        boolean isFull() {
            return terms >= MOST_TERMS;
        }

        int prime() {
            return prime;
        }

        int result() {
            return result;
        }

        private int valueAt(int term, int x) {
            int value = Rows.cell(factors, term);
            for (int i = 0; i < Rows.cell(exponents, term); i++) {
                value = Rows.mod(value * x, prime);
            }
            return value;
        }

        int ways(int wanted) {
            Rows.setWhole(waysSoFar, 1);
            for (int term = 0; term + 1 < terms; term++) {
                spread(term);
            }
            long all = 0;
            for (int x = 0; x < prime; x++) {
                all += Rows.at(waysSoFar, Rows.mod(wanted - valueAt(terms - 1, x), prime));
            }
            return (int) all;
        }

        private void spread(int term) {
            Rows.setWhole(waysNext, 0);
            for (int x = 0; x < prime; x++) {
                int value = valueAt(term, x);
                for (int i = 0; i < prime; i++) {
                    long many = Rows.at(waysSoFar, i);
                    if (many != 0) {
                        int place = Rows.mod(i + value, prime);
                        Rows.put(waysNext, place, Rows.at(waysNext, place) + many);
                    }
                }
            }
            Rows.copy(waysNext, waysSoFar);
        }
    }

    /** What a text has told: fields, equations and lets, with their names. */
    static final class Book {
        static final int MOST_FIELDS = 4;
        static final int MOST_EQUATIONS = 4;
        static final int MOST_LETS = 8;
        static final int FIELD_SORT = 1;
        static final int EQUATION_SORT = 2;
        static final int LET_SORT = 3;
        private static final int MOST_NAMES = 16;

        private final Field[] fields = new Field[MOST_FIELDS];
        private final Equation[] equations = new Equation[MOST_EQUATIONS];
        private final long[][] letRows = new long[MOST_LETS][Ring.LONGEST];
        private final int[] letFields = new int[MOST_LETS];
        private final long[] names = new long[MOST_NAMES];
        private final int[] sorts = new int[MOST_NAMES];
        private final int[] numbers = new int[MOST_NAMES];
        private int fieldCount = 0;
        private int equationCount = 0;
        private int letCount = 0;
        private int nameCount = 0;

        Book() {
            for (int i = 0; i < fields.length; i++) {
                fields[i] = new Field();
            }
            for (int i = 0; i < equations.length; i++) {
                equations[i] = new Equation();
            }
        }

        void empty() {
            fieldCount = 0;
            equationCount = 0;
            letCount = 0;
            nameCount = 0;
        }

        int fieldsHeld() {
            return fieldCount;
        }

        int equationsHeld() {
            return equationCount;
        }

        int letsHeld() {
            return letCount;
        }

        Field fieldAt(int f) {
            return f >= 0 && f < fieldCount && f < fields.length ? fields[f] : null;
        }

        Equation equationAt(int e) {
            return e >= 0 && e < equationCount && e < equations.length ? equations[e] : null;
        }

        int letFieldAt(int l) {
            return l >= 0 && l < letCount ? Rows.cell(letFields, l) : NONE;
        }

        long[] letRowAt(int l) {
            return l >= 0 && l < letCount ? Rows.rowAt(letRows, l) : null;
        }

        boolean knows(long name) {
            return rankOf(name) >= 0;
        }

        /** The number of what bears the name, if it is of that sort. */
        int find(long name, int sort) {
            int rank = rankOf(name);
            return rank >= 0 && Rows.cell(sorts, rank) == sort ? Rows.cell(numbers, rank) : NONE;
        }

        private int rankOf(long name) {
            for (int i = 0; i < nameCount && i < names.length; i++) {
                if (names[i] == name) {
                    return i;
                }
            }
            return NONE;
        }

        private void tell(long name, int sort, int number) {
            Rows.put(names, nameCount, name);
            Rows.mark(sorts, nameCount, sort);
            Rows.mark(numbers, nameCount, number);
            nameCount++;
        }

        void tellField(long name, int prime, int order) {
            if (fieldCount < fields.length && fields[fieldCount] != null) {
                fields[fieldCount].become(prime, order);
                tell(name, FIELD_SORT, fieldCount);
                fieldCount++;
            }
        }

        /** The place of an equation that is still being told; no name leads to it yet. */
        Equation nextEquation() {
            return equationCount < equations.length ? equations[equationCount] : null;
        }

        void tellEquation(long name) {
            tell(name, EQUATION_SORT, equationCount);
            equationCount++;
        }

        void tellLet(long name, int f, long[] row) {
            Rows.copy(row, Rows.rowAt(letRows, letCount));
            Rows.mark(letFields, letCount, f);
            tell(name, LET_SORT, letCount);
            letCount++;
        }
    }

    /** The bytes fed, and the tokens that their beginning is made of, which are met one at a time. */
    static final class Tape {
        static final int ROOM = 900;
        static final int FIELD = 0;
        static final int EQUATION = 1;
        static final int LET = 2;
        static final int ORDER = 3;
        static final int IN = 4;
        static final int WITH = 5;
        static final int TO = 6;
        static final int IS = 7;
        static final int BE = 8;
        static final int Z = 9;
        static final int SUM = 10;
        static final int CONJ = 11;
        static final int TURN = 12;
        private static final String KEPT_WORDS = "field equation let order in with to is be z sum conj turn ";
        private static final int KEPT = 13;
        private static final String SIGNS = ";,+-*()";
        private static final int END_TOKEN = 0;
        private static final int NO_TOKEN = 1;
        private static final int WHOLE_TOKEN = 2;
        private static final int SIGN_TOKEN = 3;
        private static final int WORD_TOKEN = 4;
        private static final int NAME_TOKEN = 5;
        private static final int MOST_LETTERS = 8;
        private static final int MOST_DIGITS = 3;

        private final int[] bytes = new int[ROOM];
        private final long[] keptWords = new long[KEPT];
        private final int[] kinds = new int[ROOM];
        private final long[] values = new long[ROOM];
        private final int[] places = new int[ROOM];
        private int held = 0;
        private int tokens = 0;
        private int end = 0;
        private int at = 0;
        private int kind = END_TOKEN;
        private long value = 0;

        Tape() {
            int word = 0;
            for (int i = 0; i < KEPT_WORDS.length(); i++) {
                char sign = KEPT_WORDS.charAt(i);
                if (sign == ' ') {
                    word++;
                } else {
                    Rows.put(keptWords, word, withLetter(Rows.at(keptWords, word), sign));
                }
            }
        }

        /** A word as one number: eight letters of five bits fit, and no two words are alike. */
        private static long withLetter(long word, int letter) {
            return word * 32 + (letter - 'a' + 1);
        }

        int bytesHeld() {
            return held;
        }

        boolean hasRoom(int more) {
            return held + more <= ROOM;
        }

        void append(int four) {
            for (int shift = 24; shift >= 0; shift -= 8) {
                Rows.mark(bytes, held, (four >> shift) & 255);
                held++;
            }
        }

        void empty() {
            held = 0;
        }

        /** What begins no token is one of a kind of its own, so that it is blamed only when it is met. */
        void split(int count) {
            end = Math.min(count, held);
            tokens = 0;
            int reached = 0;
            for (int i = 0; i < ROOM && reached < end; i++) {
                int sign = Rows.cell(bytes, reached);
                if (sign == ' ') {
                    reached++;
                } else if (isLetter(sign)) {
                    reached = splitWord(reached);
                } else if (isDigit(sign)) {
                    reached = splitWhole(reached);
                } else {
                    keepToken(SIGNS.indexOf((char) sign) >= 0 ? SIGN_TOKEN : NO_TOKEN, sign, reached);
                    reached++;
                }
            }
            at = -1;
            step();
        }

        private int splitWord(int start) {
            int reached = start;
            long word = 0;
            while (reached < end && isLetter(Rows.cell(bytes, reached))) {
                word = withLetter(word, Rows.cell(bytes, reached));
                reached++;
            }
            int keptAs = keptNumber(word);
            if (reached - start > MOST_LETTERS) {
                keepToken(NO_TOKEN, 0, start);
            } else if (keptAs >= 0) {
                keepToken(WORD_TOKEN, keptAs, start);
            } else {
                keepToken(NAME_TOKEN, word, start);
            }
            return reached;
        }

        private int keptNumber(long word) {
            for (int i = 0; i < keptWords.length; i++) {
                if (keptWords[i] == word) {
                    return i;
                }
            }
            return NONE;
        }

        private int splitWhole(int start) {
            int reached = start;
            int whole = 0;
            while (reached < end && isDigit(Rows.cell(bytes, reached))) {
                whole = whole * 10 + (Rows.cell(bytes, reached) - '0');
                reached++;
            }
            keepToken(reached - start > MOST_DIGITS ? NO_TOKEN : WHOLE_TOKEN, whole, start);
            return reached;
        }

        private void keepToken(int itsKind, long itsValue, int itsPlace) {
            Rows.mark(kinds, tokens, itsKind);
            Rows.put(values, tokens, itsValue);
            Rows.mark(places, tokens, itsPlace);
            tokens++;
        }

        private static boolean isLetter(int sign) {
            return sign >= 'a' && sign <= 'z';
        }

        private static boolean isDigit(int sign) {
            return sign >= '0' && sign <= '9';
        }

        /** On to the next token. */
        void step() {
            at++;
            boolean more = at >= 0 && at < tokens && at < kinds.length && at < values.length;
            kind = more ? kinds[at] : END_TOKEN;
            value = more ? values[at] : 0L;
        }

        int placeNow() {
            return at < tokens ? Rows.cell(places, at) : end;
        }

        boolean atEnd() {
            return kind == END_TOKEN;
        }

        boolean atWhole() {
            return kind == WHOLE_TOKEN;
        }

        boolean atWholeWithin(int least, int most) {
            return kind == WHOLE_TOKEN && value >= least && value <= most;
        }

        boolean atName() {
            return kind == NAME_TOKEN;
        }

        boolean atWord(int word) {
            return kind == WORD_TOKEN && value == word;
        }

        boolean atSign(char sign) {
            return kind == SIGN_TOKEN && value == sign;
        }

        int wholeNow() {
            return kind == WHOLE_TOKEN ? (int) value : NONE;
        }

        long nameNow() {
            return kind == NAME_TOKEN ? value : 0L;
        }
    }

    /** Reads a text into a book, from the left up to the first fault. */
    static final class Reader {
        private static final int MISSHAPEN = 1;
        private static final int NOT_TOLD = 2;
        private static final int TOLD_AGAIN = 3;
        private static final int OUT_OF_BOUNDS = 4;
        private static final int TOO_MANY = 5;
        private static final int LACKING = 6;
        private static final int HUGE = 7;
        private static final int DEEPEST = 8;

        private final Tape tape = new Tape();
        private final Ring ring = new Ring();
        // Row d of each belongs to what is being read inside d brackets, conj, turn.
        private final long[][] sums = new long[DEEPEST + 1][Ring.LONGEST];
        private final long[][] products = new long[DEEPEST + 1][Ring.LONGEST];
        private final long[][] atoms = new long[DEEPEST + 1][Ring.LONGEST];
        private Book book = new Book();
        private Field field = new Field();
        private int fieldNumber = NONE;
        private long name = 0;
        private int number = 0;
        private int numberBefore = 0;
        private int fault = 0;
        private int namePlace = NONE;
        private boolean huge = false;

        Tape tape() {
            return tape;
        }

        /** The fault, or 0. */
        int read(int bytes) {
            fault = 0;
            book.empty();
            tape.split(bytes);
            for (int i = 0; i <= Tape.ROOM; i++) {
                if (!readLine()) {
                    return fault;
                }
                if (tape.atEnd()) {
                    return book.fieldsHeld() > 0 ? 0 : LACKING;
                }
                tape.step();
            }
            return MISSHAPEN;
        }

        /** Reading stops at the token that is at fault; only a number too great is blamed on a token before it. */
        int faultPlace() {
            return fault == HUGE ? namePlace : tape.placeNow();
        }

        /** Hands out the book that was read and takes an old one, to be written over, in its place. */
        Book exchange(Book old) {
            Book read = book;
            if (old != null) {
                book = old;
            }
            return read;
        }

        private boolean blame(int why) {
            fault = why;
            return false;
        }

        /** A number too great is told only here, behind every other fault of its line. */
        private boolean readLine() {
            huge = false;
            boolean good;
            if (tape.atWord(Tape.FIELD)) {
                good = readField();
            } else if (tape.atWord(Tape.EQUATION)) {
                good = readEquation();
            } else if (tape.atWord(Tape.LET)) {
                good = readLet();
            } else {
                return blame(MISSHAPEN);
            }
            if (!good) {
                return false;
            }
            if (!tape.atEnd() && !tape.atSign(';')) {
                return blame(MISSHAPEN);
            }
            return !huge || blame(HUGE);
        }

        private boolean takeWord(int word) {
            if (!tape.atWord(word)) {
                return blame(MISSHAPEN);
            }
            tape.step();
            return true;
        }

        private boolean takeSign(char sign) {
            if (!tape.atSign(sign)) {
                return blame(MISSHAPEN);
            }
            tape.step();
            return true;
        }

        private boolean takeWhole(boolean asTold) {
            if (!tape.atWhole()) {
                return blame(MISSHAPEN);
            }
            if (!asTold) {
                return blame(OUT_OF_BOUNDS);
            }
            number = tape.wholeNow();
            tape.step();
            return true;
        }

        private boolean takeNewName() {
            if (!tape.atName()) {
                return blame(MISSHAPEN);
            }
            if (book.knows(tape.nameNow())) {
                return blame(TOLD_AGAIN);
            }
            name = tape.nameNow();
            namePlace = tape.placeNow();
            tape.step();
            return true;
        }

        private boolean takeInField() {
            if (!takeWord(Tape.IN)) {
                return false;
            }
            if (!tape.atName()) {
                return blame(MISSHAPEN);
            }
            fieldNumber = book.find(tape.nameNow(), Book.FIELD_SORT);
            Field told = book.fieldAt(fieldNumber);
            if (told == null) {
                return blame(NOT_TOLD);
            }
            field = told;
            tape.step();
            return true;
        }

        private boolean readField() {
            if (book.fieldsHeld() >= Book.MOST_FIELDS) {
                return blame(TOO_MANY);
            }
            tape.step();
            if (!takeNewName() || !takeWhole(Squares.isOddPrime(tape.wholeNow()))) {
                return false;
            }
            int prime = number;
            if (!takeWord(Tape.ORDER) || !takeWhole(isOrderFor(prime, tape.wholeNow()))) {
                return false;
            }
            book.tellField(name, prime, number);
            return true;
        }

        private static boolean isOrderFor(int prime, int order) {
            return order >= 2 && order <= Ring.MOST_ORDER && (prime - 1) % order == 0;
        }

        private boolean readEquation() {
            Equation equation = book.nextEquation();
            if (equation == null) {
                return blame(TOO_MANY);
            }
            tape.step();
            if (!takeNewName() || !takeInField() || !takeWord(Tape.WITH)) {
                return false;
            }
            equation.begin(field.prime());
            if (!readTerms(equation) || !takeWord(Tape.IS)) {
                return false;
            }
            if (!takeWhole(tape.atWholeWithin(0, field.prime() - 1))) {
                return false;
            }
            equation.close(number);
            book.tellEquation(name);
            return true;
        }

        private boolean readTerms(Equation equation) {
            for (int i = 0; i <= Equation.MOST_TERMS; i++) {
                if (!readTerm(equation)) {
                    return false;
                }
                if (!tape.atSign(',')) {
                    return true;
                }
                tape.step();
            }
            return blame(MISSHAPEN);
        }

        private boolean readTerm(Equation equation) {
            boolean inBounds = tape.atWholeWithin(1, equation.prime() - 1);
            // A fourth term that is out of bounds as well has two faults at one place: the lesser is told.
            if (inBounds && equation.isFull()) {
                return blame(TOO_MANY);
            }
            if (!takeWhole(inBounds)) {
                return false;
            }
            int factor = number;
            if (!takeWord(Tape.TO) || !takeWhole(tape.atWholeWithin(1, 12))) {
                return false;
            }
            equation.append(factor, number);
            return true;
        }

        private boolean readLet() {
            if (book.letsHeld() >= Book.MOST_LETS) {
                return blame(TOO_MANY);
            }
            tape.step();
            if (!takeNewName() || !takeInField() || !takeWord(Tape.BE) || !readSum(0)) {
                return false;
            }
            book.tellLet(name, fieldNumber, Rows.rowAt(sums, 0));
            return true;
        }

        private boolean readSum(int depth) {
            long[] all = Rows.rowAt(sums, depth);
            long[] product = Rows.rowAt(products, depth);
            if (!readProduct(depth)) {
                return false;
            }
            Rows.copy(product, all);
            for (int i = 0; i <= Tape.ROOM; i++) {
                boolean less = tape.atSign('-');
                if (!less && !tape.atSign('+')) {
                    return true;
                }
                tape.step();
                if (!readProduct(depth)) {
                    return false;
                }
                Rows.addTimes(all, product, less ? -1 : 1);
                huge = huge || Rows.isHuge(all);
            }
            return blame(MISSHAPEN);
        }

        private boolean readProduct(int depth) {
            long[] all = Rows.rowAt(products, depth);
            long[] atom = Rows.rowAt(atoms, depth);
            if (!readAtom(depth)) {
                return false;
            }
            Rows.copy(atom, all);
            for (int i = 0; i <= Tape.ROOM; i++) {
                if (!tape.atSign('*')) {
                    return true;
                }
                tape.step();
                if (!readAtom(depth)) {
                    return false;
                }
                ring.multiply(all, atom, all, field.order());
                huge = huge || Rows.isHuge(all);
            }
            return blame(MISSHAPEN);
        }

        private boolean readAtom(int depth) {
            long[] atom = Rows.rowAt(atoms, depth);
            boolean good;
            if (tape.atWhole()) {
                good = takeWhole(true);
                Rows.setWhole(atom, number);
            } else if (tape.atName()) {
                good = readLetName(atom);
            } else if (tape.atWord(Tape.Z)) {
                tape.step();
                good = takeWhole(tape.atWholeWithin(0, 99));
                ring.powerOfZ(number, atom, field.order());
            } else if (tape.atWord(Tape.SUM)) {
                tape.step();
                good = takeTwoCharacters();
                field.jacobiSum(numberBefore, number, ring, atom);
            } else {
                good = readDeeper(depth, atom);
            }
            huge = huge || Rows.isHuge(atom);
            return good;
        }

        private boolean readLetName(long[] atom) {
            int l = book.find(tape.nameNow(), Book.LET_SORT);
            if (l < 0 || book.letFieldAt(l) != fieldNumber) {
                return blame(NOT_TOLD);
            }
            Rows.copy(book.letRowAt(l), atom);
            tape.step();
            return true;
        }

        private boolean takeTwoCharacters() {
            int most = field.order() - 1;
            if (!takeWhole(tape.atWholeWithin(0, most))) {
                return false;
            }
            numberBefore = number;
            return takeSign(',') && takeWhole(tape.atWholeWithin(0, most));
        }

        private boolean readDeeper(int depth, long[] atom) {
            boolean bracket = tape.atSign('(');
            boolean turned = tape.atWord(Tape.TURN);
            if (!bracket && !turned && !tape.atWord(Tape.CONJ)) {
                return blame(MISSHAPEN);
            }
            if (depth >= DEEPEST) {
                return blame(TOO_MANY);
            }
            tape.step();
            if (bracket) {
                boolean closed = readSum(depth + 1) && takeSign(')');
                Rows.copy(Rows.rowAt(sums, depth + 1), atom);
                return closed;
            }
            if (turned && !takeWhole(field.hasTurn(tape.wholeNow()))) {
                return false;
            }
            int t = turned ? number : field.order() - 1;
            boolean good = readAtom(depth + 1);
            ring.turnRow(Rows.rowAt(atoms, depth + 1), t, atom, field.order());
            return good;
        }
    }

    /** The four registers as they are, as they were and as they may be again, and their images. */
    static final class Registers {
        private static final int MANY = 4;
        private static final int MOST_UNDONE = 20;
        private static final int MOST_IMAGES = 4;
        private static final int STATES = MOST_UNDONE + 1;
        // Of each state the field's number comes first, then row upon row.
        private static final int WIDTH = 1 + MANY * Ring.LONGEST;

        private final long[] states = new long[STATES * WIDTH];
        private final long[] images = new long[MOST_IMAGES * WIDTH];
        private int current = 0;
        private int undoable = 0;
        private int redoable = 0;
        private int imageCount = 0;

        void restart() {
            current = 0;
            undoable = 0;
            redoable = 0;
            imageCount = 0;
            clearTo(0);
        }

        boolean has(int r) {
            return r >= 0 && r < MANY;
        }

        int fieldNow() {
            return (int) Rows.at(states, current * WIDTH);
        }

        int actsToUndo() {
            return undoable;
        }

        int actsToRedo() {
            return redoable;
        }

        int imagesHeld() {
            return imageCount;
        }

        void clearTo(int f) {
            for (int i = 0; i < WIDTH; i++) {
                Rows.put(states, current * WIDTH + i, 0);
            }
            Rows.put(states, current * WIDTH, f);
        }

        private int startOf(int r) {
            return current * WIDTH + 1 + r * Ring.LONGEST;
        }

        void copyOut(int r, long[] row) {
            for (int i = 0; i < Ring.LONGEST; i++) {
                Rows.put(row, i, Rows.at(states, startOf(r) + i));
            }
        }

        void copyIn(int r, long[] row) {
            for (int i = 0; i < Ring.LONGEST; i++) {
                Rows.put(states, startOf(r) + i, Rows.at(row, i));
            }
        }

        private static void copyState(long[] from, int source, long[] to, int target) {
            for (int i = 0; i < WIDTH; i++) {
                Rows.put(to, target * WIDTH + i, Rows.at(from, source * WIDTH + i));
            }
        }

        /** Keeps the state as it is and goes on in a copy; the oldest state falls out of the ring of states. */
        void beginAct() {
            int following = Rows.mod(current + 1, STATES);
            copyState(states, current, states, following);
            current = following;
            undoable = Math.min(undoable + 1, MOST_UNDONE);
            redoable = 0;
        }

        boolean stepBack() {
            if (undoable == 0) {
                return false;
            }
            current = Rows.mod(current - 1, STATES);
            undoable--;
            redoable++;
            return true;
        }

        boolean stepOn() {
            if (redoable == 0) {
                return false;
            }
            current = Rows.mod(current + 1, STATES);
            undoable++;
            redoable--;
            return true;
        }

        boolean keepImage() {
            if (imageCount >= MOST_IMAGES) {
                return false;
            }
            copyState(states, current, images, imageCount);
            imageCount++;
            return true;
        }

        void bringBack(int image) {
            copyState(images, image, states, current);
        }
    }

    /** The row of signs of a field, turned from any place on. */
    static final class SignRow {
        private final int[] row = new int[Field.MOST_PRIME];
        private final int[] echoes = new int[Field.MOST_PRIME];
        private int length = 0;

        void become(Field field) {
            length = field == null ? 0 : field.prime();
            Rows.mark(row, 0, 1);
            for (int x = 1; x < length; x++) {
                Rows.mark(row, x, field.logOf(x) % 2 == 0 ? 1 : -1);
            }
        }

        private int signAt(int i) {
            return Rows.cell(row, i < length ? i : i - length);
        }

        int echoAt(int r, int s) {
            int all = 0;
            for (int i = 0; i + s < length; i++) {
                all += signAt(Rows.mod(r + i, length)) * signAt(Rows.mod(r + i + s, length));
            }
            return all;
        }

        long noiseAt(int r) {
            long all = 0;
            for (int s = 1; s < length; s++) {
                long echo = echoAt(r, s);
                all += echo * echo;
            }
            return all;
        }

        /** Turned on by one, a row loses its first sign and has it last: each echo changes by two products. */
        int leastNoisy() {
            for (int s = 1; s < length; s++) {
                Rows.mark(echoes, s, echoAt(0, s));
            }
            long least = noiseOfEchoes();
            int best = 0;
            for (int r = 1; r < length; r++) {
                passOn(r - 1);
                long noise = noiseOfEchoes();
                if (noise < least) {
                    least = noise;
                    best = r;
                }
            }
            return best;
        }

        private void passOn(int r) {
            for (int s = 1; s < length; s++) {
                int change = signAt(r) * (signAt(r + length - s) - signAt(r + s));
                Rows.mark(echoes, s, Rows.cell(echoes, s) + change);
            }
        }

        private long noiseOfEchoes() {
            long all = 0;
            for (int s = 1; s < length; s++) {
                long echo = Rows.cell(echoes, s);
                all += echo * echo;
            }
            return all;
        }
    }

    /** Squares, forms and classes of whole numbers. */
    static final class Squares {
        static boolean isOddPrime(int p) {
            if (p < 3 || p > Field.MOST_PRIME) {
                return false;
            }
            for (int d = 2; d < p; d++) {
                if (p % d == 0) {
                    return false;
                }
            }
            return true;
        }

        /** The greatest number that goes into both, of which the first is above 0. */
        static int commonPart(int one, int other) {
            for (int d = one; d > 1; d--) {
                if (one % d == 0 && other % d == 0) {
                    return d;
                }
            }
            return 1;
        }

        static int signOf(int x, int p) {
            int rest = Rows.mod(x, p);
            if (rest == 0) {
                return 0;
            }
            for (int y = 1; y < p; y++) {
                if (Rows.mod(y * y, p) == rest) {
                    return 1;
                }
            }
            return -1;
        }

        private static boolean isSquare(int number) {
            for (int root = 0; root * root <= number && root <= Field.MOST_PRIME; root++) {
                if (root * root == number) {
                    return true;
                }
            }
            return false;
        }

        static int leastForm(int p, int d) {
            for (int y = 0; y <= p && d * y * y <= p; y++) {
                if (isSquare(p - d * y * y)) {
                    return y;
                }
            }
            return ABSENT;
        }

        static int classBySums(int p) {
            int all = 0;
            for (int x = 1; x < p; x++) {
                all += x * signOf(x, p);
            }
            return p < 1 ? 0 : -all / p;
        }

        static int classByForms(int d) {
            int all = 0;
            for (int a = 1; 3 * a * a <= d && a <= d; a++) {
                for (int b = 1 - a; b <= a; b++) {
                    if (isReducedForm(a, b, b * b + d)) {
                        all++;
                    }
                }
            }
            return all;
        }

        private static boolean isReducedForm(int a, int b, int fourTimesAC) {
            if (a < 1 || fourTimesAC % (4 * a) != 0) {
                return false;
            }
            int c = fourTimesAC / (4 * a);
            if (c < a || (c == a && b < 0)) {
                return false;
            }
            return commonPart(commonPart(a, b), c) == 1;
        }
    }
}
