import java.util.ArrayList;
import java.util.LinkedHashSet;
import java.util.List;
import java.util.Set;

/** The edges of faults 1 to 7 of a text: names, bounds, room, depth, HUGE, and which of two faults is told. */
public final class FaultEdgeTests {
    private static final String F = "field f 7 order 3;";
    private static final String LET = F + "let a in f be ";
    private static final String E = F + "equation e in f with ";
    private static final String MOST = "500*500*400";
    private static final int[] PRIMES = {3, 5, 7, 11, 13, 61, 157, 197, 199};

    private FaultEdgeTests() {
    }

    public static void main(String[] args) {
        primesAndOrders();
        wholesOfEquations();
        wholesOfLets();
        turnsOfLets();
        namesToldAgain();
        namesAlike();
        namesNotTold();
        roomForFields();
        roomForEquations();
        roomForLets();
        roomForPowers();
        depth();
        hugeBounds();
        hugeOnTheWay();
        hugeInEveryPlace();
        twoFaults();
        lacksIsNeverMet();
        Due.end();
    }

    private static boolean isOddPrime(int p) {
        for (int d = 2; d < p; d++) {
            if (p % d == 0) {
                return false;
            }
        }
        return p > 2 && p <= 199;
    }

    private static int common(int a, int b) {
        return b == 0 ? a : common(b, a % b);
    }

    private static void primesAndOrders() {
        for (int p = 0; p <= 999; p++) {
            if (isOddPrime(p)) {
                Due.good("field f " + p + " order 2", 1);
            } else {
                Due.fault("field f " + p + " order 2", 4, 8);
                Due.fault("field f " + p + " order", 4, 8);
            }
        }
        for (int p : PRIMES) {
            for (int n = 0; n <= 999; n += n < 24 ? 1 : 25) {
                String text = "field f " + p + " order " + n;
                if (n >= 2 && n <= 12 && (p - 1) % n == 0) {
                    Due.good(text, 1);
                } else {
                    Due.fault(text, 4, text.lastIndexOf(' ') + 1);
                }
            }
            // The order is the prime less 1, and the next on both sides.
            Due.fault("field f " + p + " order " + p, 4, ("field f " + p + " order ").length());
        }
        Due.good("field f 3 order 2", 1);
        Due.good("field f 13 order 12", 1);
        Due.fault("field f 3 order 1", 4, 16);
        Due.fault("field f 53 order 13", 4, 17);
        // A field that is at fault is none, also for what stands behind it in another book.
        Due.fault("field f 7 order 5;let a in f be 1", 4, 16);
    }

    private static void wholesOfEquations() {
        for (int p : PRIMES) {
            String start = "field f " + p + " order 2;equation e in f with ";
            bounded(start, " to 1 is 0", 1, p - 1);
            bounded(start + "1 to ", " is 0", 1, 12);
            bounded(start + "1 to 1 is ", "", 0, p - 1);
            bounded(start + "1 to 1,", " to 1 is 0", 1, p - 1);
            bounded(start + "1 to 1,1 to 1,1 to ", " is 0", 1, 12);
            bounded(start + "1 to 1,1 to 1,", " to 1 is 0", 1, p - 1);
        }
        // The bounds are those of the equation's own field, not of the latest one.
        String two = "field f 5 order 2;field g 11 order 2;equation e in ";
        Due.fault(two + "f with 5 to 1 is 0", 4, two.length() + 7);
        Due.good(two + "g with 10 to 1 is 10", 2);
        Due.fault(two + "f with 4 to 1 is 5", 4, two.length() + 17);
    }

    private static void bounded(String before, String behind, int least, int most) {
        for (int n : new int[] {0, 1, 2, least - 1, least, most - 1, most, most + 1, 12, 13, 198, 199, 999}) {
            if (n < 0 || n > 999) {
                continue;
            }
            if (n >= least && n <= most) {
                Due.good(before + n + behind, before.contains("field g") ? 2 : 1);
            } else {
                Due.fault(before + n + behind, 4, before.length());
            }
        }
    }

    private static void wholesOfLets() {
        int[][] fields = {{3, 2}, {7, 3}, {5, 4}, {11, 5}, {7, 6}, {29, 7}, {17, 8}, {19, 9}, {11, 10}, {23, 11}, {13, 12}};
        for (int[] field : fields) {
            int n = field[1];
            String start = "field f " + field[0] + " order " + n + ";let a in f be ";
            bounded(start + "sum ", ",0", 0, n - 1);
            bounded(start + "sum 0,", "", 0, n - 1);
            bounded(start + "sum " + (n - 1) + ",", "", 0, n - 1);
            bounded(start + "z ", "", 0, 99);
            bounded(start, "", 0, 999);
            Due.good(start + "z 98+z 99", 1);
            Due.fault(start + "z 100", 4, start.length() + 2);
            // z 99 comes round to a power below the order.
            TurningSums sums = Due.with(start + "z 99-z " + 99 % n + ";let b in f be z " + n + ";let c in f be z 0");
            for (int i = 0; i < sums.field(0, 3); i++) {
                Due.is("z 99 comes round in order " + n, sums.let(0, i), 0);
                Due.is("z " + n + " is 1", sums.let(1, i), i == 0 ? 1 : 0);
                Due.is("z 0 is 1", sums.let(2, i), i == 0 ? 1 : 0);
            }
        }
    }

    private static void turnsOfLets() {
        int[][] fields = {{3, 2}, {7, 3}, {5, 4}, {11, 5}, {7, 6}, {29, 7}, {17, 8}, {19, 9}, {11, 10}, {23, 11}, {13, 12}};
        for (int[] field : fields) {
            int n = field[1];
            String start = "field f " + field[0] + " order " + n + ";let a in f be turn ";
            for (int t = 0; t <= n + 13; t++) {
                if (t >= 1 && t < n && common(t, n) == 1) {
                    Due.good(start + t + " z 1", 1);
                } else {
                    Due.fault(start + t + " z 1", 4, start.length());
                }
            }
            Due.fault(start + "999 1", 4, start.length());
        }
    }

    private static String told(char sort, String name) {
        return sort == 'f' ? "field " + name + " 5 order 2" : sort == 'e' ? "equation " + name + " in f with 1 to 1 is 0" : "let " + name + " in f be 1";
    }

    private static void namesToldAgain() {
        for (char first : "fel".toCharArray()) {
            for (char second : "fel".toCharArray()) {
                String start = F + told(first, "name") + ";";
                String word = second == 'f' ? "field " : second == 'e' ? "equation " : "let ";
                Due.fault(start + told(second, "name"), 3, start.length() + word.length());
                Due.fault(start + word + "name", 3, start.length() + word.length());
                Due.good(start + told(second, "names"), first == 'f' ? second == 'f' ? 3 : 2 : second == 'f' ? 2 : 1);
                Due.good(start + told(second, "nam"), first == 'f' ? second == 'f' ? 3 : 2 : second == 'f' ? 2 : 1);
            }
        }
        // What another book has told, good or faulty, is not told in this one.
        TurningSums sums = new TurningSums();
        Due.is("a book", Due.book(sums, LET + "1"), 1);
        Due.is("the same names again", Due.book(sums, LET + "2"), 1);
        Due.is("a faulty book", Due.book(sums, LET + "3;let b in f be"), -1);
        Due.is("its names are not told", Due.book(sums, LET + "3;let b in f be 4"), 1);
        Due.is("a name of the older book", Due.book(sums, "field g 7 order 3;let d in g be b"), -1);
        Due.is("is not told", sums.fault(), 2);
        Due.is("at it", sums.where(), 32);
    }

    /** Names are the same only if they have the same letters in the same order. */
    private static void namesAlike() {
        List<String> names = new ArrayList<>(List.of("a", "b", "y", "q"));
        for (int i = 0; i < 28; i++) {
            String longer = names.get(i) + "abyq".charAt(i % 4);
            names.add(longer);
            names.add("z" + longer);
        }
        for (int i = 0; i < 8; i++) {
            names.add("mmmmmmmm".substring(i));
            names.add("mmmmmmmm".substring(i + 1) + "n" + "mmmmmmmm".substring(8 - i));
            names.add("mmmmmmmm".substring(i + 1) + "l" + "mmmmmmmm".substring(8 - i));
        }
        Set<String> all = new LinkedHashSet<>();
        for (String name : names) {
            all.add(name.length() > 8 ? name.substring(0, 8) : name);
        }
        for (String one : all) {
            for (String other : all) {
                String text = "field " + one + " 7 order 3;let ";
                if (one.equals(other)) {
                    Due.fault(text + other + " in " + one + " be 1", 3, text.length());
                } else {
                    Due.good(text + other + " in " + one + " be 1", 1);
                    Due.fault(text + "x in " + other + " be 1", 2, text.length() + 5);
                }
            }
        }
    }

    private static void namesNotTold() {
        Due.fault("let a in f be 1;field f 7 order 3", 2, 9);
        Due.fault("equation e in f with 1 to 1 is 1;field f 7 order 3", 2, 14);
        for (char sort : "el".toCharArray()) {
            String start = F + told(sort, "other") + ";";
            Due.fault(start + "equation g in other", 2, start.length() + 14);
            Due.fault(start + "let g in other", 2, start.length() + 9);
            if (sort == 'e') {
                Due.fault(start + "let g in f be other", 2, start.length() + 14);
                Due.fault(start + "let g in f be 1*(2-conj other", 2, start.length() + 24);
            }
        }
        // Of another sort, where there is one of the sort that must stand there, told as many ahead.
        String all = LET + "1;equation e in f with 1 to 1 is 0;";
        Due.fault(all + "let b in f be e", 2, all.length() + 14);
        Due.fault(all + "let b in f be f", 2, all.length() + 14);
        Due.fault(all + "let b in a be 1", 2, all.length() + 9);
        Due.fault(all + "let b in e be 1", 2, all.length() + 9);
        Due.fault(all + "equation b in a with 1 to 1 is 0", 2, all.length() + 14);
        Due.fault(all + "equation b in e with 1 to 1 is 0", 2, all.length() + 14);
        Due.good(all + "let b in f be a;equation c in f with 1 to 1 is 0", 1);
        Due.fault(LET + "a", 2, 32);
        Due.fault(LET + "f", 2, 32);
        Due.fault(F + "let a in a be 1", 2, 27);
        Due.fault(F + "equation e in e with 1 to 1 is 1", 2, 32);
        Due.fault(LET + "b;let b in f be 1", 2, 32);
        // A field of the same prime and order is another one.
        String two = F + "field g 7 order 3;let a in f be 1;let b in g be ";
        Due.fault(two + "a", 2, two.length());
        Due.fault(two + "1+a", 2, two.length() + 2);
        Due.good(two + "1;let c in f be a;let d in g be b;let e in f be c+a", 2);
        Due.fault(two + "1;let c in f be a;let d in g be c", 2, two.length() + 32);
        // Told ahead in the very let before, and in the first of eight.
        StringBuilder text = new StringBuilder(F).append("let a in f be 1");
        for (char name = 'b'; name <= 'h'; name++) {
            if (name != 'f') {
                text.append(";let ").append(name).append(" in f be a+").append((char) (name == 'g' ? 'e' : name - 1));
            }
        }
        TurningSums sums = Due.with(text.toString());
        Due.is("seven lets", sums.told(2), 7);
        Due.is("the last", sums.let(6, 0), 7);
    }

    private static void roomForFields() {
        String text = "field a 3 order 2;field b 3 order 2;field c 3 order 2";
        Due.good(text, 3);
        Due.good(text + ";field d 3 order 2", 4);
        String four = text + ";field d 3 order 2;";
        for (String rest : new String[] {"field", "field e 3 order 2", "field a", "field 7", "field ;", "field #"}) {
            Due.fault(four + rest, 5, four.length());
        }
        Due.fault(four + "  field e 3 order 2", 5, four.length() + 2);
        Due.fault(four + "fields", 1, four.length());
        Due.fault(four, 1, four.length());
        Due.good(four + "let e in d be 1;equation h in d with 1 to 1 is 2", 4);
        Due.fault(four + "let e in d be 1;field h 3 order 2", 5, four.length() + 16);
        Due.is("the fourth", Due.with(four + "let e in d be 1").letField(0), 3);
    }

    private static void roomForEquations() {
        StringBuilder text = new StringBuilder("field f 7 order 3");
        for (char name = 'a'; name <= 'd'; name++) {
            text.append(";equation ").append(name).append(" in f with 1 to 1 is ").append(name - 'a');
            TurningSums sums = Due.with(text.toString());
            Due.is("equations", sums.told(1), name - 'a' + 1);
            Due.is(sums, "the last", sums.count(name - 'a'), 1, 0);
            Due.is(sums, "none such", sums.count(name - 'a' + 1), -1, 1);
        }
        String four = text + ";";
        for (String rest : new String[] {"equation", "equation e in f with 1 to 1 is 0", "equation a", "equation 7", "equation ;", "equation #"}) {
            Due.fault(four + rest, 5, four.length());
        }
        Due.good(four + "let e in f be 1;field g 5 order 4", 2);
        Due.fault(four + "let e in f be 1;field g 5 order 4;equation", 5, four.length() + 34);
    }

    private static void roomForLets() {
        StringBuilder text = new StringBuilder("field f 7 order 3");
        for (char name = 'g'; name <= 'n'; name++) {
            text.append(";let ").append(name).append(" in f be ").append(name - 'f');
            TurningSums sums = Due.with(text.toString());
            Due.is("lets", sums.told(2), name - 'f');
            Due.is(sums, "the last", sums.let(name - 'g', 0), name - 'f', 0);
            Due.is(sums, "none such", sums.let(name - 'f', 0), -1000000000, 1);
        }
        String eight = text + ";";
        for (String rest : new String[] {"let", "let o in f be 1", "let g", "let 7", "let ;", "let #", "let o in f be 999*999*999"}) {
            Due.fault(eight + rest, 5, eight.length());
        }
        Due.good(eight + "field o 5 order 4;equation p in o with 1 to 1 is 4", 2);
        // All that there is room for, in one book.
        StringBuilder full = new StringBuilder();
        for (char name = 'a'; name <= 'd'; name++) {
            full.append("field ").append(name).append(" 13 order 12;");
        }
        for (char name = 'e'; name <= 'h'; name++) {
            full.append("equation ").append(name).append(" in ").append((char) (name - 4)).append(" with 1 to 1,2 to 2,3 to 3 is 1;");
        }
        for (char name = 'i'; name <= 'p'; name++) {
            full.append("let ").append(name).append(" in ").append((char) ('a' + (name - 'i') % 4)).append(" be z 1;");
        }
        TurningSums sums = Due.with(full.substring(0, full.length() - 1));
        Due.is("fields", sums.told(0), 4);
        Due.is("equations", sums.told(1), 4);
        Due.is("lets", sums.told(2), 8);
        Due.fault(full + "field", 5, full.length());
        Due.fault(full + "equation", 5, full.length());
        Due.fault(full + "let", 5, full.length());
        Due.fault(full.toString(), 1, full.length());
    }

    private static void roomForPowers() {
        Due.good(E + "1 to 1 is 0", 1);
        Due.good(E + "1 to 1,1 to 1 is 0", 1);
        Due.good(E + "1 to 1,1 to 1,1 to 1 is 0", 1);
        String three = E + "1 to 1,1 to 1,1 to 1";
        Due.fault(three + ",1 to 1 is 0", 5, three.length() + 1);
        Due.fault(three + ",1 to 1,1 to 1 is 0", 5, three.length() + 1);
        Due.fault(three + ", 6", 5, three.length() + 2);
        Due.fault(three + ",1 #", 5, three.length() + 1);
        // One place, the least number: a fourth one that is out of bounds, or no WHOLE.
        Due.fault(three + ",0", 4, three.length() + 1);
        Due.fault(three + ",7", 4, three.length() + 1);
        Due.fault(three + ",1000", 1, three.length() + 1);
        Due.fault(three + ",to", 1, three.length() + 1);
        Due.fault(three + ",", 1, three.length() + 1);
        Due.fault(E + "is 0", 1, E.length());
        Due.fault(E + ",1 to 1 is 0", 1, E.length());
        Due.is("three powers", Due.with(three + " is 0").count(0), 49);
    }

    private static String deep(String part, int many) {
        StringBuilder text = new StringBuilder();
        for (int i = 0; i < many; i++) {
            text.append(part);
        }
        return text.toString();
    }

    private static void depth() {
        String[] opens = {deep("(", 8), deep("conj ", 8), deep("turn 2 ", 8), deep("(conj ", 4), deep("turn 1(", 4), deep("conj turn 2 ", 4),
            deep("(conj(turn 2 ", 2)};
        for (String open : opens) {
            String close = deep(")", open.length() - open.replace("(", "").length());
            Due.good(LET + open + "z 1" + close, 1);
            Due.good(LET + open + "z 1" + close + "+" + open + "z 1" + close, 1);
            Due.good(LET + "7*" + open + "z 1" + close + "*" + open + "z 1" + close, 1);
            for (String ninth : new String[] {"(1)", "conj 1", "turn 1 1", "(", "conj", "turn", "conj #", "turn 9"}) {
                Due.fault(LET + open + ninth, 5, LET.length() + open.length());
            }
            Due.fault(LET + open + ")", 1, LET.length() + open.length());
            Due.fault(LET + open + "sum 1,3", 4, LET.length() + open.length() + 6);
        }
        Due.fault(LET + deep("(", 8) + "1+(1)", 5, LET.length() + 10);
        Due.fault(LET + deep("(", 8) + "1*conj 1", 5, LET.length() + 10);
        Due.good(LET + deep("conj ", 8) + "1*conj 1", 1);
        // Behind a conj and its atom the next atom lies no deeper.
        Due.good(LET + "((((((((1))))))))*((((((((1))))))))-conj conj conj conj conj conj conj conj 1*conj 1", 1);
        Due.good(LET + "(((((((conj 1*conj 1+turn 2 1)))))))", 1);
        Due.fault(LET + "(((((((conj 1*conj conj 1)))))))", 5, LET.length() + 19);
        // Each let begins at no depth.
        Due.good(LET + "((((((((1))))))));let b in f be ((((((((1))))))))", 1);
    }

    private static void hugeBounds() {
        TurningSums sums = Due.with(LET + MOST + ";let b in f be 0-" + MOST + ";let c in f be " + MOST + "*z 1-" + MOST);
        Due.is("the most", sums.let(0, 0), 100000000);
        Due.is("the least", sums.let(1, 0), -100000000);
        Due.is("both", sums.let(2, 0), -100000000);
        Due.is("both", sums.let(2, 1), 100000000);
        Due.good(LET + MOST + "-1", 1);
        Due.fault(LET + MOST + "+1", 7, 22);
        Due.fault(LET + "1+" + MOST, 7, 22);
        Due.fault(LET + "0-" + MOST + "-1", 7, 22);
        Due.fault(LET + "0-1-" + MOST, 7, 22);
        Due.good(LET + "0-" + MOST + "+1-1", 1);
        // 17 times 5,882,353 is one more than the most, 9,999 times 10,001 one less.
        Due.fault(LET + "17*(588*100*100+235*10+3)", 7, 22);
        Due.good(LET + "(10*100*10-1)*(10*100*10+1)", 1);
        Due.fault(LET + "(0-17)*(588*100*100+235*10+3)", 7, 22);
        Due.fault(LET + MOST + "*2-" + MOST, 7, 22);
        Due.good(LET + MOST + "*0", 1);
        Due.fault(LET + "999*999*999*0", 7, 22);
        Due.good(LET + "999*999*100", 1);
        Due.fault(LET + "999*999*101", 7, 22);
        Due.good(LET + "0*999*999*999*999*999*999*999", 1);
        // Where 64 bits come round: the product that is 0 in them.
        Due.fault(LET + "512*512*512*512*512*512*512*512", 7, 22);
        Due.fault(LET + "512*512*512*512*512*512*512*512*0", 7, 22);
    }

    private static void hugeOnTheWay() {
        String near = MOST + "*z 1";
        // conj of 100,000,000 (1 - z) is 100,000,000 (2 + z); the atom behind conj is not, what conj makes of it is too great.
        Due.good(LET + MOST + "-" + near, 1);
        Due.fault(LET + "conj(" + MOST + "-" + near + ")", 7, 22);
        Due.fault(LET + "turn 2(" + MOST + "-" + near + ")", 7, 22);
        Due.good(LET + "turn 1(" + MOST + "-" + near + ")", 1);
        Due.fault(LET + "conj conj(" + MOST + "-" + near + ")", 7, 22);
        Due.fault(LET + "0*conj(" + MOST + "-" + near + ")", 7, 22);
        // A sum so far, a product so far, in brackets and out of them.
        Due.fault(LET + MOST + "+1-1", 7, 22);
        Due.fault(LET + "(" + MOST + "+1)-1", 7, 22);
        Due.fault(LET + "0*(" + MOST + "+1-1)", 7, 22);
        Due.fault(LET + "1+0*(2-(3+" + MOST + "-3))", 7, 22);
        Due.fault(LET + MOST + "*z 1*z 1*2-" + MOST + "*z 2", 7, 22);
        Due.good(LET + MOST + "-" + MOST + "*1+" + MOST, 1);
        // z times z makes -1 - z: the row of a product is looked at when it is least.
        Due.good(LET + "(" + near + ")*z 1", 1);
        Due.fault(LET + "(" + MOST + "-" + near + ")*z 1", 7, 22);
        Due.good(LET + "(" + MOST + "+" + near + ")*z 1", 1);
        // A let made of a let.
        String lets = LET + MOST + ";let b in f be ";
        Due.good(lets + "a", 1);
        Due.good(lets + "a-a+a", 1);
        Due.fault(lets + "a+a-a", 7, lets.length() - 10);
        Due.fault(lets + "a*a", 7, lets.length() - 10);
    }

    /** The number that is too great may stand anywhere in a row, in a field of any order. */
    private static void hugeInEveryPlace() {
        int[][] fields = {{3, 2}, {7, 3}, {5, 4}, {11, 5}, {7, 6}, {29, 7}, {17, 8}, {19, 9}, {11, 10}, {23, 11}, {13, 12}};
        for (int[] field : fields) {
            String start = "field f " + field[0] + " order " + field[1] + ";let a in f be ";
            int length = Due.with(start + "1").field(0, 3);
            for (int i = 0; i < length; i++) {
                int place = start.indexOf("let ") + 4;
                Due.good(start + MOST + "*z " + i, 1);
                Due.fault(start + MOST + "*z " + i + "+z " + i, 7, place);
                Due.good(start + "0-" + MOST + "*z " + i, 1);
                Due.fault(start + "0-" + MOST + "*z " + i + "-z " + i, 7, place);
                Due.fault(start + MOST + "*z " + i + "*2", 7, place);
            }
        }
    }

    private static void twoFaults() {
        String much = "999*999*999";
        // HUGE is told behind all other faults of its line, though its place is ahead of them.
        Due.fault(LET + much, 7, 22);
        Due.fault(LET + much + "+", 1, LET.length() + 12);
        Due.fault(LET + much + "+z 100", 4, LET.length() + 14);
        Due.fault(LET + much + "+b", 2, LET.length() + 12);
        Due.fault(LET + much + "+(((((((((1", 5, LET.length() + 20);
        Due.fault(LET + much + ")", 1, LET.length() + 11);
        Due.fault(LET + much + " 5", 1, LET.length() + 12);
        Due.fault(LET + much + "@", 1, LET.length() + 11);
        // It is told ahead of what stands in later lines.
        Due.fault(LET + much + ";@", 7, 22);
        Due.fault(LET + much + ";", 7, 22);
        Due.fault(LET + much + ";let a in f be 1", 7, 22);
        Due.fault(LET + much + ";let b in f be " + much, 7, 22);
        Due.fault(LET + "1;let b in f be " + much + ";let c in f be " + much, 7, 38);
        // A name told again has the same place, and the lesser number.
        Due.fault(LET + "1;let a in f be " + much, 3, 38);
        // The first from the left, else.
        Due.fault("field f 9 order 1", 4, 8);
        Due.fault("field f 7 order 1;field f", 4, 16);
        Due.fault(F + "field f 9", 3, 24);
        Due.fault(F + "equation f in g", 3, 27);
        Due.fault(F + "equation e in g with 0", 2, 32);
        Due.fault(E + "0 to 0 is 7", 4, 39);
        Due.fault(E + "1 to 0 is 7", 4, 44);
        Due.fault(E + "1 to 1 is 7", 4, 49);
        Due.fault(E + "1 to 1 is 7 7", 4, 49);
        Due.fault(E + "1 to 1 is 6 7", 1, 51);
        Due.fault(LET + "sum 3,3", 4, 36);
        Due.fault(LET + "turn 3 b", 4, 37);
        Due.fault(LET + "turn 2 b", 2, 39);
        Due.fault(LET + "b+z 100", 2, 32);
        Due.fault(LET + "z 100+b", 4, 34);
    }

    /** A line of no field names one, which is not told then: so there is always a fault ahead of the sixth. */
    private static void lacksIsNeverMet() {
        Due.fault("", 1, 0);
        Due.fault("let a in b be 1", 2, 9);
        Due.fault("equation a in b with 1 to 1 is 1", 2, 14);
    }
}
