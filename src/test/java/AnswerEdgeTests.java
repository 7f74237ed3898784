/** The edges of promises 6 to 32 and 45: the last that is answered and the first that is refused, which changes nothing. */
public final class AnswerEdgeTests {
    private static final int LEAST = Integer.MIN_VALUE;
    private static final int MOST = Integer.MAX_VALUE;
    private static final int[] NO_FIELD = {-1, 3, 4, LEAST, MOST};
    private static final int[] BOTH_ENDS = {-1, 7, LEAST, MOST};
    private static final String BOOK = "field f 7 order 3;field g 13 order 12;field h 3 order 2;equation e in f with 1 to 3,2 to 2,3 to 1 is 1;"
        + "equation d in h with 2 to 12 is 2;let u in f be sum 1,1;let v in f be 5*z 1-3;let w in g be z 7*500;let y in h be 9";

    private static final Twins OLD = new Twins(AnswerEdgeTests::past);
    private static final Twins NEW = new Twins(sums -> Due.feed(sums, "field q 11 order 5"));

    private AnswerEdgeTests() {
    }

    public static void main(String[] args) {
        field();
        log();
        character();
        sum();
        normAndParts();
        relation();
        partAndLaw();
        lets();
        letPart();
        counts();
        curve();
        signAndBoth();
        form();
        power();
        classSums();
        classForms();
        meetsAndEven();
        rows();
        led();
        lastCall();
        Due.end();
    }

    /** A book, acts undone and not, images, a fault that was, and bytes on the tape. */
    private static void past(TurningSums sums) {
        Due.is("a book", Due.book(sums, BOOK), 3);
        sums.take(0, 1);
        sums.image();
        sums.jacobi(1, 2, 2);
        sums.times(0, 1);
        sums.add(2, 0, -3);
        sums.image();
        sums.choose(1);
        sums.jacobi(3, 5, 4);
        sums.undo();
        sums.undo();
        Due.is("a faulty book", Due.book(sums, "field f 9"), -1);
        Due.feed(sums, "field q 11 order 5");
    }

    private static void field() {
        int[][] due = {{7, 3, 3, 2}, {13, 12, 2, 4}, {3, 2, 2, 1}};
        for (int f = 0; f < 3; f++) {
            int at = f;
            for (int what = 0; what <= 3; what++) {
                int asked = what;
                OLD.answers("field " + f + ", " + what, due[f][what], sums -> sums.field(at, asked));
                NEW.refuses("field without a book", 1, -1, sums -> sums.field(at, asked));
            }
            for (int what : new int[] {-1, 4, LEAST, MOST}) {
                OLD.refuses("field " + f + ", " + what, 1, -1, sums -> sums.field(at, what));
            }
        }
        for (int f : NO_FIELD) {
            OLD.refuses("field " + f, 1, -1, sums -> sums.field(f, 0));
        }
        int[][] rows = {{3, 2, 1}, {7, 3, 2}, {5, 4, 2}, {11, 5, 4}, {7, 6, 2}, {29, 7, 6}, {17, 8, 4}, {19, 9, 6}, {11, 10, 4}, {23, 11, 10}, {13, 12, 4}};
        for (int[] row : rows) {
            Due.is("row of order " + row[1], Due.with("field f " + row[0] + " order " + row[1]).field(0, 3), row[2]);
        }
    }

    private static void log() {
        OLD.answers("log 1", 0, sums -> sums.log(0, 1));
        OLD.answers("log of the root", 1, sums -> sums.log(0, 3));
        OLD.answers("log 6", 3, sums -> sums.log(0, 6));
        OLD.answers("log 5, the greatest", 5, sums -> sums.log(0, 5));
        OLD.answers("log 2 of 3", 1, sums -> sums.log(2, 2));
        OLD.answers("log 12 of 13", 6, sums -> sums.log(1, 12));
        for (int x : new int[] {0, -1, 7, 8, LEAST, MOST}) {
            OLD.refuses("log " + x, 2, -1, sums -> sums.log(0, x));
        }
        OLD.refuses("log 3 of 3", 2, -1, sums -> sums.log(2, 3));
        for (int f : NO_FIELD) {
            OLD.refuses("log of field " + f, 1, -1, sums -> sums.log(f, 1));
            OLD.refuses("log 0 of field " + f, 1, -1, sums -> sums.log(f, 0));
        }
        NEW.refuses("log without a book", 1, -1, sums -> sums.log(0, 1));
    }

    private static void character() {
        OLD.answers("character 0 at 0", 0, sums -> sums.character(0, 0, 0));
        OLD.answers("character 1 at 0", -2, sums -> sums.character(0, 1, 0));
        OLD.answers("character 2 at 0", -2, sums -> sums.character(0, 2, 0));
        OLD.answers("character 0 at 6", 0, sums -> sums.character(0, 0, 6));
        OLD.answers("character 2 at 6", 0, sums -> sums.character(0, 2, 6));
        OLD.answers("character 2 at 5 comes round", 1, sums -> sums.character(0, 2, 5));
        OLD.answers("character 11 at 7 of 13 comes round", 1, sums -> sums.character(1, 11, 7));
        for (int a : new int[] {-1, 3, LEAST, MOST}) {
            OLD.refuses("character " + a, 1, -1, sums -> sums.character(0, a, 1));
            OLD.refuses("character " + a + " at none", 1, -1, sums -> sums.character(0, a, 7));
        }
        for (int x : BOTH_ENDS) {
            OLD.refuses("character at " + x, 2, -1, sums -> sums.character(0, 2, x));
        }
        for (int f : NO_FIELD) {
            OLD.refuses("character of field " + f, 1, -1, sums -> sums.character(f, 0, 99));
        }
        OLD.answers("character 11 of the second field", 11, sums -> sums.character(1, 11, 2));
        OLD.refuses("character 12 of the second field", 1, -1, sums -> sums.character(1, 12, 2));
        NEW.refuses("character without a book", 1, -1, sums -> sums.character(0, 0, 0));
    }

    private static void sum() {
        OLD.answers("sum 0, 0", 7, sums -> sums.sum(0, 0, 0, 0));
        OLD.answers("sum 0, 0 is whole", 0, sums -> sums.sum(0, 0, 0, 1));
        OLD.answers("sum 0, 2", 0, sums -> sums.sum(0, 0, 2, 0));
        OLD.answers("sum 2, 0", 0, sums -> sums.sum(0, 2, 0, 1));
        OLD.answers("sum 2, 1", -1, sums -> sums.sum(0, 2, 1, 0));
        OLD.answers("sum 2, 2", 2, sums -> sums.sum(0, 2, 2, 0));
        OLD.answers("sum 2, 2", 3, sums -> sums.sum(0, 2, 2, 1));
        OLD.answers("sum of 3", 1, sums -> sums.sum(2, 1, 1, 0));
        OLD.answers("the last number of 12", Due.with(BOOK).sum(1, 11, 11, 3), sums -> sums.sum(1, 11, 11, 3));
        for (int i : new int[] {-1, 2, 3, 9, 10, LEAST, MOST}) {
            OLD.refuses("sum c(" + i + ")", 1, -1000, sums -> sums.sum(0, 1, 1, i));
        }
        OLD.refuses("sum c(4) of 12", 1, -1000, sums -> sums.sum(1, 1, 1, 4));
        OLD.refuses("sum c(1) of 2", 1, -1000, sums -> sums.sum(2, 1, 1, 1));
        for (int a : new int[] {-1, 3, LEAST, MOST}) {
            OLD.refuses("sum a " + a, 1, -1000, sums -> sums.sum(0, a, 0, 0));
            OLD.refuses("sum b " + a, 1, -1000, sums -> sums.sum(0, 0, a, 0));
        }
        for (int f : NO_FIELD) {
            OLD.refuses("sum of field " + f, 1, -1000, sums -> sums.sum(f, 0, 0, 0));
        }
        NEW.refuses("sum without a book", 1, -1000, sums -> sums.sum(0, 0, 0, 0));
    }

    private static void normAndParts() {
        OLD.answers("norm 0, 0", 49, sums -> sums.norm(0, 0, 0));
        OLD.answers("norm 0, 2", 0, sums -> sums.norm(0, 0, 2));
        OLD.answers("norm 2, 1", 1, sums -> sums.norm(0, 2, 1));
        OLD.answers("norm 2, 2", 7, sums -> sums.norm(0, 2, 2));
        OLD.answers("norm 11, 11 of 13", 13, sums -> sums.norm(1, 11, 11));
        OLD.answers("norm of 3", 1, sums -> sums.norm(2, 1, 1));
        Due.is("norm of the greatest prime", Due.with("field f 199 order 11").norm(0, 0, 0), 199 * 199);
        OLD.answers("all parts of a sum that is 7", 2, sums -> sums.parts(0, 0, 0));
        OLD.answers("parts of 0", 2, sums -> sums.parts(0, 0, 2));
        OLD.answers("parts of -1", 0, sums -> sums.parts(0, 2, 1));
        OLD.answers("parts 2, 2", 1, sums -> sums.parts(0, 2, 2));
        OLD.answers("parts of 2 have one turn", 0, sums -> sums.parts(2, 1, 1));
        for (int a : new int[] {-1, 3, LEAST, MOST}) {
            OLD.refuses("norm a " + a, 1, -1, sums -> sums.norm(0, a, 0));
            OLD.refuses("norm b " + a, 1, -1, sums -> sums.norm(0, 0, a));
            OLD.refuses("parts a " + a, 1, -1, sums -> sums.parts(0, a, 0));
            OLD.refuses("parts b " + a, 1, -1, sums -> sums.parts(0, 0, a));
        }
        for (int f : NO_FIELD) {
            OLD.refuses("norm of field " + f, 1, -1, sums -> sums.norm(f, 0, 0));
            OLD.refuses("parts of field " + f, 1, -1, sums -> sums.parts(f, 0, 0));
        }
        NEW.refuses("norm without a book", 1, -1, sums -> sums.norm(0, 0, 0));
        NEW.refuses("parts without a book", 1, -1, sums -> sums.parts(0, 0, 0));
    }

    private static void relation() {
        OLD.answers("relation 0, 0, 0", 1, sums -> sums.relation(0, 0, 0, 0));
        OLD.answers("relation 2, 2, 2 comes round", 1, sums -> sums.relation(0, 2, 2, 2));
        OLD.answers("relation 0, 0, 1", 1, sums -> sums.relation(0, 0, 0, 1));
        // SUM 1, 2 is -1 and SUM 0, 0 is 7; SUM 2, 0 is 0.
        OLD.answers("relation 1, 2, 0", 0, sums -> sums.relation(0, 1, 2, 0));
        OLD.answers("relation 0, 1, 2", 0, sums -> sums.relation(0, 0, 1, 2));
        OLD.answers("relation 11, 11, 11", 1, sums -> sums.relation(1, 11, 11, 11));
        for (int a : new int[] {-1, 3, LEAST, MOST}) {
            OLD.refuses("relation a " + a, 1, -1, sums -> sums.relation(0, a, 0, 0));
            OLD.refuses("relation b " + a, 1, -1, sums -> sums.relation(0, 0, a, 0));
            OLD.refuses("relation c " + a, 1, -1, sums -> sums.relation(0, 0, 0, a));
        }
        OLD.refuses("relation c 12", 1, -1, sums -> sums.relation(1, 0, 0, 12));
        for (int f : NO_FIELD) {
            OLD.refuses("relation of field " + f, 1, -1, sums -> sums.relation(f, 0, 0, 0));
        }
        NEW.refuses("relation without a book", 1, -1, sums -> sums.relation(0, 0, 0, 0));
    }

    private static void partAndLaw() {
        OLD.answers("part 0, 0, 1", 0, sums -> sums.part(0, 0, 0, 1));
        OLD.answers("part of -1", 6, sums -> sums.part(0, 1, 2, 2));
        OLD.answers("law below", 1, sums -> sums.law(0, 1, 1, 1));
        OLD.answers("law above", 0, sums -> sums.law(0, 1, 1, 2));
        OLD.answers("law 11 of 12, one below", 1, sums -> sums.law(1, 5, 6, 1));
        OLD.answers("law 13 of 12, one above", 0, sums -> sums.law(1, 6, 7, 1));
        OLD.answers("law turned round", 0, sums -> sums.law(1, 5, 6, 11));
        OLD.refuses("law a 0", 5, -1, sums -> sums.law(0, 0, 1, 1));
        OLD.refuses("law b 0", 5, -1, sums -> sums.law(0, 1, 0, 1));
        OLD.refuses("law both 0", 5, -1, sums -> sums.law(0, 0, 0, 1));
        OLD.refuses("law a + b the order", 5, -1, sums -> sums.law(0, 2, 1, 1));
        OLD.refuses("law of 2", 5, -1, sums -> sums.law(2, 1, 1, 1));
        for (int t : new int[] {-1, 0, 2, 3, 4, 6, 8, 9, 10, 12, 13, LEAST, MOST}) {
            OLD.refuses("part t " + t, 2, -1, sums -> sums.part(1, 1, 1, t));
            OLD.refuses("law t " + t, 2, -1, sums -> sums.law(1, 1, 1, t));
            OLD.refuses("law t " + t + " ahead of a", 2, -1, sums -> sums.law(1, 0, 1, t));
        }
        for (int t : new int[] {1, 5, 7, 11}) {
            OLD.answers("part of 13, t " + t, 0, sums -> sums.part(1, 0, 0, t));
            OLD.answers("law of 13, t " + t, t == 1 ? 1 : t == 11 ? 0 : t + 2 * t < 12 ? 1 : t == 5 ? 0 : 1, sums -> sums.law(1, 1, 2, t));
        }
        for (int a : new int[] {-1, 3, LEAST, MOST}) {
            OLD.refuses("part a " + a, 1, -1, sums -> sums.part(0, a, 0, 0));
            OLD.refuses("part b " + a, 1, -1, sums -> sums.part(0, 0, a, 0));
            OLD.refuses("law a " + a, 1, -1, sums -> sums.law(0, a, 0, 0));
            OLD.refuses("law b " + a, 1, -1, sums -> sums.law(0, 0, a, 0));
        }
        for (int f : NO_FIELD) {
            OLD.refuses("part of field " + f, 1, -1, sums -> sums.part(f, 0, 0, 0));
            OLD.refuses("law of field " + f, 1, -1, sums -> sums.law(f, 0, 0, 0));
        }
        NEW.refuses("part without a book", 1, -1, sums -> sums.part(0, 0, 0, 1));
        NEW.refuses("law without a book", 1, -1, sums -> sums.law(0, 1, 1, 1));
    }

    private static void lets() {
        OLD.answers("let 0, 0", -1, sums -> sums.let(0, 0));
        OLD.answers("let 0, 1", -3, sums -> sums.let(0, 1));
        OLD.answers("let 2, 3: z 7 is -z", 0, sums -> sums.let(2, 3));
        OLD.answers("let 2, 1: z 7 is -z", -500, sums -> sums.let(2, 1));
        OLD.answers("let 3, 0", 9, sums -> sums.let(3, 0));
        OLD.answers("letField 0", 0, sums -> sums.letField(0));
        OLD.answers("letField 3", 2, sums -> sums.letField(3));
        OLD.answers("whole 0", 0, sums -> sums.whole(0));
        OLD.answers("whole 2", 0, sums -> sums.whole(2));
        OLD.answers("whole 3", 1, sums -> sums.whole(3));
        for (int i : new int[] {-1, 2, 3, 9, 10, LEAST, MOST}) {
            OLD.refuses("let 0, " + i, 1, -1000000000, sums -> sums.let(0, i));
        }
        OLD.refuses("let 2, 4", 1, -1000000000, sums -> sums.let(2, 4));
        OLD.refuses("let 3, 1", 1, -1000000000, sums -> sums.let(3, 1));
        for (int l : new int[] {-1, 4, 7, 8, LEAST, MOST}) {
            OLD.refuses("let " + l, 1, -1000000000, sums -> sums.let(l, 0));
            OLD.refuses("letField " + l, 1, -1, sums -> sums.letField(l));
            OLD.refuses("whole " + l, 1, -1, sums -> sums.whole(l));
        }
        NEW.refuses("let without a book", 1, -1000000000, sums -> sums.let(0, 0));
        NEW.refuses("letField without a book", 1, -1, sums -> sums.letField(0));
        NEW.refuses("whole without a book", 1, -1, sums -> sums.whole(0));
        Twins none = new Twins(sums -> Due.book(sums, "field f 7 order 3"));
        none.refuses("let of a book without lets", 1, -1000000000, sums -> sums.let(0, 0));
        none.refuses("letField of a book without lets", 1, -1, sums -> sums.letField(0));
        none.refuses("letPart of a book without lets", 1, -1, sums -> sums.letPart(0, 1));
        none.refuses("whole of a book without lets", 1, -1, sums -> sums.whole(0));
        TurningSums last = Due.with("field f 23 order 11;let a in f be z 9;let b in f be z 10;let c in f be 5+z 9;let d in f be 0");
        Due.is(last, "the last of ten", last.let(0, 9), 1, 0);
        Due.is(last, "none such", last.let(0, 10), -1000000000, 1);
        Due.is(last, "z 10 is less all others", last.let(1, 9), -1, 0);
        Due.is(last, "not whole by its last number alone", last.whole(2), 0, 0);
        Due.is(last, "0 is whole", last.whole(3), 1, 0);
    }

    private static void letPart() {
        OLD.answers("letPart 0, 1", 0, sums -> sums.letPart(0, 1));
        OLD.answers("letPart 0, 2", 1, sums -> sums.letPart(0, 2));
        OLD.answers("letPart 3, 1", 0, sums -> sums.letPart(3, 1));
        OLD.answers("letPart 2, 11", 500 * 2 * 2 * 2 * 2 * 2 % 13, sums -> sums.letPart(2, 11));
        for (int t : new int[] {-1, 0, 3, 4, LEAST, MOST}) {
            OLD.refuses("letPart 0, " + t, 2, -1, sums -> sums.letPart(0, t));
        }
        for (int t : new int[] {0, 2, 3, 4, 6, 8, 9, 10, 12, 13}) {
            OLD.refuses("letPart 2, " + t, 2, -1, sums -> sums.letPart(2, t));
        }
        OLD.refuses("letPart 3, 2", 2, -1, sums -> sums.letPart(3, 2));
        for (int l : new int[] {-1, 4, 8, LEAST, MOST}) {
            OLD.refuses("letPart " + l, 1, -1, sums -> sums.letPart(l, 1));
            OLD.refuses("letPart " + l + " and no t", 1, -1, sums -> sums.letPart(l, 0));
        }
        NEW.refuses("letPart without a book", 1, -1, sums -> sums.letPart(0, 1));
        TurningSums far = Due.with("field f 199 order 11;let a in f be 500*500*400;let b in f be 0-500*500*400;let c in f be 199;let d in f be 0-1");
        Due.is(far, "the most mod 199", far.letPart(0, 1), 100000000 % 199, 0);
        Due.is(far, "the least mod 199", far.letPart(1, 10), 199 - 100000000 % 199, 0);
        Due.is(far, "199 mod 199", far.letPart(2, 1), 0, 0);
        Due.is(far, "-1 mod 199", far.letPart(3, 1), 198, 0);
    }

    private static void counts() {
        OLD.answers("count 1", 2, sums -> sums.count(1));
        OLD.answers("countOf 1, 0", 1, sums -> sums.countOf(1, 0));
        OLD.answers("countOf 1, 2", 2, sums -> sums.countOf(1, 2));
        OLD.answers("countOf 0, 6", 49, sums -> sums.countOf(0, 6));
        OLD.answers("count 0", 49, sums -> sums.count(0));
        for (int e : new int[] {-1, 2, 3, 4, LEAST, MOST}) {
            OLD.refuses("count " + e, 1, -1, sums -> sums.count(e));
            OLD.refuses("countOf " + e, 1, -1, sums -> sums.countOf(e, 0));
            OLD.refuses("countOf " + e + " and no number", 1, -1, sums -> sums.countOf(e, -1));
        }
        for (int is : BOTH_ENDS) {
            OLD.refuses("countOf is " + is, 2, -1, sums -> sums.countOf(0, is));
        }
        OLD.refuses("countOf 1, 3", 2, -1, sums -> sums.countOf(1, 3));
        NEW.refuses("count without a book", 1, -1, sums -> sums.count(0));
        NEW.refuses("countOf without a book", 1, -1, sums -> sums.countOf(0, 0));
    }

    private static void curve() {
        OLD.answers("curve by 1", 6, sums -> sums.curve(0, 1));
        OLD.answers("curve by 4", 2328, sums -> sums.curve(0, 4));
        OLD.answers("curve of 3 by 1", 4, sums -> sums.curve(2, 1));
        OLD.answers("curve of 3 by 4", 80, sums -> sums.curve(2, 4));
        for (int k : new int[] {0, 5, -1, LEAST, MOST}) {
            OLD.refuses("curve by " + k, 2, -1, sums -> sums.curve(0, k));
        }
        for (int f : NO_FIELD) {
            OLD.refuses("curve of field " + f, 1, -1, sums -> sums.curve(f, 1));
            OLD.refuses("curve of field " + f + " by 0", 1, -1, sums -> sums.curve(f, 0));
        }
        NEW.refuses("curve without a book", 1, -1, sums -> sums.curve(0, 1));
    }

    private static void signAndBoth() {
        for (Twins twins : new Twins[] {OLD, NEW}) {
            twins.answers("sign 0", 0, sums -> sums.sign(0, 3));
            twins.answers("sign 1", 1, sums -> sums.sign(1, 3));
            twins.answers("sign 2", -1, sums -> sums.sign(2, 3));
            twins.answers("sign 3", 0, sums -> sums.sign(3, 3));
            twins.answers("sign -1", -1, sums -> sums.sign(-1, 3));
            twins.answers("sign -3", 0, sums -> sums.sign(-3, 3));
            twins.answers("sign of the least", 1, sums -> sums.sign(LEAST, 3));
            twins.answers("sign of the most", 1, sums -> sums.sign(MOST, 3));
            twins.answers("sign of the least by 199", LEAST % 199 == 0 ? 0 : -1, sums -> sums.sign(LEAST, 199));
            twins.answers("sign 198 by 199", -1, sums -> sums.sign(198, 199));
            twins.answers("sign 199 by 199", 0, sums -> sums.sign(199, 199));
            twins.answers("both 3, 199", -1, sums -> sums.both(3, 199));
            twins.answers("both 199, 197", 1, sums -> sums.both(199, 197));
            for (int p : new int[] {2, 1, 0, -1, -3, -7, 4, 9, 121, 169, 195, 198, 200, 201, 211, LEAST, MOST}) {
                twins.refuses("sign by " + p, 1, -2, sums -> sums.sign(1, p));
                twins.refuses("both p " + p, 1, -2, sums -> sums.both(p, 3));
                twins.refuses("both q " + p, 1, -2, sums -> sums.both(3, p));
            }
            twins.refuses("both 3, 3", 1, -2, sums -> sums.both(3, 3));
            twins.refuses("both 199, 199", 1, -2, sums -> sums.both(199, 199));
            twins.refuses("both 9, 9", 1, -2, sums -> sums.both(9, 9));
        }
    }

    private static void form() {
        for (Twins twins : new Twins[] {OLD, NEW}) {
            twins.answers("form 3, 1", -2, sums -> sums.form(3, 1));
            twins.answers("form 3, 2", 1, sums -> sums.form(3, 2));
            twins.answers("form 3, 3: 0 is a square", 1, sums -> sums.form(3, 3));
            twins.answers("form 199, 98", -2, sums -> sums.form(199, 98));
            twins.answers("form 199, 99", 1, sums -> sums.form(199, 99));
            twins.answers("form 103, 99", 1, sums -> sums.form(103, 99));
            twins.answers("form 197, 1", 1, sums -> sums.form(197, 1));
            twins.answers("form 5, 1: the least of two", 1, sums -> sums.form(5, 1));
            twins.answers("form 97, 97", 1, sums -> sums.form(97, 97));
            for (int d : new int[] {0, 100, -1, LEAST, MOST}) {
                twins.refuses("form by " + d, 2, -1, sums -> sums.form(3, d));
                twins.refuses("form by " + d + " and no prime", 1, -1, sums -> sums.form(9, d));
            }
            for (int p : new int[] {2, 1, 0, -3, 9, 200, 211, LEAST, MOST}) {
                twins.refuses("form of " + p, 1, -1, sums -> sums.form(p, 1));
            }
        }
    }

    private static void power() {
        OLD.answers("1 is a 12th power", 1, sums -> sums.power(0, 1, 12));
        OLD.answers("6 is a first power", 1, sums -> sums.power(0, 6, 1));
        OLD.answers("6 is a cube", 1, sums -> sums.power(0, 6, 3));
        OLD.answers("6 is no sixth power", 0, sums -> sums.power(0, 6, 6));
        OLD.answers("6 is a fifth power", 1, sums -> sums.power(0, 6, 5));
        OLD.answers("12 is no fourth power", 0, sums -> sums.power(1, 12, 4));
        OLD.answers("2 by 2 in 3", 0, sums -> sums.power(2, 2, 2));
        for (int x : new int[] {0, -1, 7, LEAST, MOST}) {
            OLD.refuses("power of " + x, 2, -1, sums -> sums.power(0, x, 1));
        }
        for (int k : new int[] {0, 13, -1, LEAST, MOST}) {
            OLD.refuses("power " + k, 2, -1, sums -> sums.power(0, 1, k));
        }
        for (int f : NO_FIELD) {
            OLD.refuses("power in field " + f, 1, -1, sums -> sums.power(f, 1, 1));
            OLD.refuses("power 0 in field " + f, 1, -1, sums -> sums.power(f, 0, 0));
        }
        NEW.refuses("power without a book", 1, -1, sums -> sums.power(0, 1, 1));
    }

    private static void classSums() {
        for (Twins twins : new Twins[] {OLD, NEW}) {
            twins.answers("classSums 7", 1, sums -> sums.classSums(7));
            twins.answers("classSums 11", 1, sums -> sums.classSums(11));
            twins.answers("classSums 191", 13, sums -> sums.classSums(191));
            twins.answers("classSums 199", 9, sums -> sums.classSums(199));
            for (int p : new int[] {3, 5, 6, 8, 13, 15, 197, 198, 200, 203, 211, 2, 0, -1, -5, -7, LEAST, MOST, MOST - 4}) {
                twins.refuses("classSums " + p, 2, -1, sums -> sums.classSums(p));
            }
        }
    }

    private static void classForms() {
        for (Twins twins : new Twins[] {OLD, NEW}) {
            twins.answers("classForms 3", 1, sums -> sums.classForms(3));
            twins.answers("classForms 4", 1, sums -> sums.classForms(4));
            twins.answers("classForms 12: nothing goes into all", 1, sums -> sums.classForms(12));
            twins.answers("classForms 16", 1, sums -> sums.classForms(16));
            twins.answers("classForms 996", 12, sums -> sums.classForms(996));
            twins.answers("classForms 999", Due.with("field f 3 order 2").classForms(999), sums -> sums.classForms(999));
            for (int d : new int[] {2, 1, 0, -1, -4, 5, 6, 997, 998, 1000, 1003, LEAST, MOST, MOST - 3}) {
                twins.refuses("classForms " + d, 2, -1, sums -> sums.classForms(d));
            }
        }
    }

    private static void meetsAndEven() {
        OLD.answers("meets 0, 2", 1, sums -> sums.meets(0, 0, 2));
        OLD.answers("meets 2, 0", 1, sums -> sums.meets(0, 2, 0));
        OLD.answers("meets 2, 2", 0, sums -> sums.meets(0, 2, 2));
        OLD.answers("meets of 3", 1, sums -> sums.meets(2, 0, 1));
        OLD.answers("meets of 3, no other", 0, sums -> sums.meets(2, 1, 0));
        OLD.answers("meets 0, 1 of 13", 1, sums -> sums.meets(1, 0, 1));
        OLD.answers("meets 0, 11 of 13", 0, sums -> sums.meets(1, 0, 11));
        for (int i : new int[] {-1, 3, LEAST, MOST}) {
            OLD.refuses("meets i " + i, 1, -1, sums -> sums.meets(0, i, 0));
            OLD.refuses("meets j " + i, 1, -1, sums -> sums.meets(0, 0, i));
        }
        OLD.answers("even: 1 and 6 have 2 and 5 once", -2, sums -> sums.even(0));
        OLD.answers("even: 1 alone has no differences", 0, sums -> sums.even(1));
        OLD.answers("even: 1 alone", 0, sums -> sums.even(2));
        Twins squares = new Twins(sums -> Due.book(sums, "field f 7 order 2;field g 11 order 2"));
        squares.answers("even of the squares of 7", 1, sums -> sums.even(0));
        squares.answers("even of the squares of 11", 2, sums -> sums.even(1));
        Due.is("not even: the squares of 5", Due.with("field f 5 order 2").even(0), -2);
        Due.is("even of the squares of 199", Due.with("field f 199 order 2").even(0), 49);
        for (int f : NO_FIELD) {
            OLD.refuses("meets of field " + f, 1, -1, sums -> sums.meets(f, 0, 0));
            OLD.refuses("even of field " + f, 1, -1, sums -> sums.even(f));
        }
        NEW.refuses("meets without a book", 1, -1, sums -> sums.meets(0, 0, 0));
        NEW.refuses("even without a book", 1, -1, sums -> sums.even(0));
    }

    private static void rows() {
        // The row of 7: 1, 1, 1, -1, 1, -1, -1.
        OLD.answers("echo 0, 0", 7, sums -> sums.echo(0, 0, 0));
        OLD.answers("echo 0, 6: first and last, not round", -1, sums -> sums.echo(0, 0, 6));
        OLD.answers("echo 6, 0", 7, sums -> sums.echo(0, 6, 0));
        OLD.answers("echo 5, 6: from the last but one on, round", -1, sums -> sums.echo(0, 5, 6));
        OLD.answers("echo 6, 6: from the last on, round", 1, sums -> sums.echo(0, 6, 6));
        OLD.answers("echo 1, 6", 1, sums -> sums.echo(0, 1, 6));
        OLD.answers("echo 0, 5", -2, sums -> sums.echo(0, 0, 5));
        // The row of 3: 1, 1, -1.
        OLD.answers("echo of 3", 0, sums -> sums.echo(2, 0, 1));
        OLD.answers("echo of 3", -1, sums -> sums.echo(2, 0, 2));
        OLD.answers("noise 0 of 3", 1, sums -> sums.noise(2, 0));
        OLD.answers("noise 1 of 3: 1, -1, 1", 5, sums -> sums.noise(2, 1));
        OLD.answers("noise 2 of 3: -1, 1, 1", 1, sums -> sums.noise(2, 2));
        OLD.answers("lowest of 3: the first of two", 0, sums -> sums.lowest(2));
        OLD.answers("noise 0", 7, sums -> sums.noise(0, 0));
        OLD.answers("noise 6", Due.with(BOOK).noise(0, 6), sums -> sums.noise(0, 6));
        OLD.answers("lowest", 3, sums -> sums.lowest(0));
        for (int r : BOTH_ENDS) {
            OLD.refuses("echo r " + r, 2, -1000, sums -> sums.echo(0, r, 0));
            OLD.refuses("echo s " + r, 2, -1000, sums -> sums.echo(0, 0, r));
            OLD.refuses("noise r " + r, 2, -1, sums -> sums.noise(0, r));
        }
        OLD.refuses("echo r 3 of 3", 2, -1000, sums -> sums.echo(2, 3, 0));
        OLD.refuses("echo s 3 of 3", 2, -1000, sums -> sums.echo(2, 0, 3));
        OLD.refuses("noise 3 of 3", 2, -1, sums -> sums.noise(2, 3));
        for (int f : NO_FIELD) {
            OLD.refuses("echo of field " + f, 1, -1000, sums -> sums.echo(f, 0, 0));
            OLD.refuses("echo -1 of field " + f, 1, -1000, sums -> sums.echo(f, -1, -1));
            OLD.refuses("noise of field " + f, 1, -1, sums -> sums.noise(f, 0));
            OLD.refuses("noise -1 of field " + f, 1, -1, sums -> sums.noise(f, -1));
            OLD.refuses("lowest of field " + f, 1, -1, sums -> sums.lowest(f));
        }
        NEW.refuses("echo without a book", 1, -1000, sums -> sums.echo(0, 0, 0));
        NEW.refuses("noise without a book", 1, -1, sums -> sums.noise(0, 0));
        NEW.refuses("lowest without a book", 1, -1, sums -> sums.lowest(0));
    }

    private static void led() {
        OLD.leaves("led 0", 1, sums -> Twins.led(sums, 0, 0));
        OLD.leaves("led 1, the last", 6, sums -> Twins.led(sums, 0, 1));
        OLD.leaves("led of 13", 1, sums -> Twins.led(sums, 1, 0));
        for (int i : new int[] {2, 3, -1, LEAST, MOST}) {
            OLD.leaves("led " + i, Twins.THROWN, sums -> Twins.led(sums, 0, i));
        }
        OLD.leaves("led 1 of 13", Twins.THROWN, sums -> Twins.led(sums, 1, 1));
        for (int f : NO_FIELD) {
            OLD.leaves("led of field " + f, Twins.THROWN, sums -> Twins.led(sums, f, 0));
        }
        NEW.leaves("led without a book", Twins.THROWN, sums -> Twins.led(sums, 0, 0));
        TurningSums squares = Due.with("field f 199 order 2");
        Due.is("the last of 99 squares", squares.led(0, 98), 196);
        Due.is("a hundredth", Twins.led(squares, 0, 99), Twins.THROWN);
    }

    /** An object is good for 512 calls: the last of them answers as the first. */
    private static void lastCall() {
        TurningSums sums = new TurningSums();
        int calls = 0;
        for (; calls < 45; calls++) {
            sums.feed(0, 0, 0, 0, 0);
        }
        sums.book(0);
        Due.is("told(7)", sums.told(7), 0);
        sums.feed(0x6669656c, 0x64206620, 0x37206f72, 0x64657220, 0x33202020);
        Due.is("book", sums.book(17), 1);
        calls += 4;
        for (; calls < 510; calls += 3) {
            sums.jacobi(calls % 4, 1, 1 + calls % 2);
            sums.undo();
            sums.lowest(0);
        }
        for (; calls < 511; calls++) {
            sums.sum(0, 9, 9, 9);
        }
        Due.is("the 512th call", sums.sum(0, 1, 1, 1), -3);
    }
}
