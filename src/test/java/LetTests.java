/** Promises 15 to 18: lets, against the same text reckoned over complex numbers at each turn. */
public final class LetTests {
    private static final int[][] FIELDS = {{3, 2}, {7, 3}, {13, 4}, {11, 5}, {31, 6}, {29, 7}, {17, 8}, {19, 9}, {41, 10}, {23, 11}, {37, 12}, {199, 9}};
    private static int seed = 20;

    private LetTests() {
    }

    public static void main(String[] args) {
        for (int[] field : FIELDS) {
            for (int round = 0; round < 40; round++) {
                oneText(field[0], field[1]);
            }
        }
        order();
        names();
        parts();
        refusals();
        Due.end();
    }

    private static int any(int bound) {
        seed = seed * 1103515245 + 12345;
        return (seed >>> 8) % bound;
    }

    private static int common(int a, int b) {
        return b == 0 ? a : common(b, a % b);
    }

    /** A text with what it is at every turn: values[t] holds the real and the imaginary part. */
    private static final class Said {
        private final String text;
        private final double[][] values;

        Said(String text, double[][] values) {
            this.text = text;
            this.values = values;
        }
    }

    private static double[][] powerOfZ(int n, int e) {
        double[][] values = new double[n][];
        for (int t = 0; t < n; t++) {
            values[t] = new double[] {Math.cos(2 * Math.PI * t * e / n), Math.sin(2 * Math.PI * t * e / n)};
        }
        return values;
    }

    private static double[][] plus(double[][] a, double[][] b, int sign) {
        double[][] values = new double[a.length][];
        for (int t = 0; t < a.length; t++) {
            values[t] = new double[] {a[t][0] + sign * b[t][0], a[t][1] + sign * b[t][1]};
        }
        return values;
    }

    private static double[][] times(double[][] a, double[][] b) {
        double[][] values = new double[a.length][];
        for (int t = 0; t < a.length; t++) {
            values[t] = new double[] {a[t][0] * b[t][0] - a[t][1] * b[t][1], a[t][0] * b[t][1] + a[t][1] * b[t][0]};
        }
        return values;
    }

    private static double[][] turned(double[][] a, int by) {
        double[][] values = new double[a.length][];
        for (int t = 0; t < a.length; t++) {
            values[t] = a[t * by % a.length];
        }
        return values;
    }

    private static double[][] whole(int n, int value) {
        return times(powerOfZ(n, 0), scaled(n, value));
    }

    private static double[][] scaled(int n, int value) {
        double[][] values = new double[n][];
        for (int t = 0; t < n; t++) {
            values[t] = new double[] {value, 0};
        }
        return values;
    }

    private static Said atom(int p, int n, int depth) {
        int kind = any(depth > 3 ? 3 : 6);
        if (kind == 0) {
            int value = any(9);
            return new Said("" + value, whole(n, value));
        }
        if (kind == 1) {
            int e = any(100);
            return new Said("z" + e, powerOfZ(n, e));
        }
        if (kind == 2) {
            int a = any(n);
            int b = any(n);
            double[][] values = scaled(n, 0);
            // An object is good for 512 calls.
            TurningSums fresh = Due.with("field f " + p + " order " + n);
            for (int x = 0; x < p; x++) {
                int left = fresh.character(0, a, x);
                int right = fresh.character(0, b, (1 - x + p) % p);
                if (left != -2 && right != -2) {
                    values = plus(values, powerOfZ(n, left + right), 1);
                }
            }
            return new Said("sum " + a + "," + b, values);
        }
        if (kind == 3) {
            Said inner = atom(p, n, depth + 1);
            return new Said("conj " + inner.text, turned(inner.values, n - 1));
        }
        if (kind == 4) {
            int t = 1;
            for (int i = 0; i < 9; i++) {
                int other = 1 + any(n - 1 > 0 ? n - 1 : 1);
                t = common(other, n) == 1 ? other : t;
            }
            Said inner = atom(p, n, depth + 1);
            return new Said("turn " + t + " " + inner.text, turned(inner.values, t));
        }
        Said inner = sum(p, n, depth + 1);
        return new Said("(" + inner.text + ")", inner.values);
    }

    private static Said product(int p, int n, int depth) {
        Said all = atom(p, n, depth);
        for (int i = any(3); i > 1; i--) {
            Said next = atom(p, n, depth);
            all = new Said(all.text + "*" + next.text, times(all.values, next.values));
        }
        return all;
    }

    private static Said sum(int p, int n, int depth) {
        Said all = product(p, n, depth);
        for (int i = any(4); i > 1; i--) {
            boolean less = any(2) == 0;
            Said next = product(p, n, depth);
            all = new Said(all.text + (less ? " - " : " + ") + next.text, plus(all.values, next.values, less ? -1 : 1));
        }
        return all;
    }

    private static void oneText(int p, int n) {
        Said said = sum(p, n, 0);
        String text = "field f " + p + " order " + n + ";let a in f be " + said.text;
        if (text.length() > 880) {
            return;
        }
        TurningSums sums = Due.with(text);
        double[][] got = scaled(n, 0);
        boolean isWhole = true;
        for (int i = 0; i < sums.field(0, 3); i++) {
            got = plus(got, times(powerOfZ(n, i), scaled(n, sums.let(0, i))), 1);
            isWhole &= i == 0 || sums.let(0, i) == 0;
        }
        Due.is(sums, text + ": whole", sums.whole(0), isWhole ? 1 : 0, 0);
        for (int t = 1; t < n; t++) {
            if (common(t, n) == 1) {
                boolean close = Math.abs(got[t][0] - said.values[t][0]) < 1e-3 && Math.abs(got[t][1] - said.values[t][1]) < 1e-3;
                Due.is(text + " turned by " + t, close, true);
                Due.is(sums, text + " part " + t, sums.letPart(0, t), partOf(sums, p, n, t), 0);
            }
        }
    }

    private static int partOf(TurningSums sums, int p, int n, int t) {
        long z = 1;
        int root = sums.field(0, 2);
        int length = sums.field(0, 3);
        for (int i = 0; i < t * (p - 1) / n; i++) {
            z = z * root % p;
        }
        long all = 0;
        long power = 1;
        for (int i = 0; i < length; i++) {
            all += power * sums.let(0, i);
            power = power * z % p;
        }
        return (int) Math.floorMod(all, (long) p);
    }

    private static void row(String what, TurningSums sums, int l, int... due) {
        for (int i = 0; i < due.length; i++) {
            Due.is(sums, what + " c(" + i + ")", sums.let(l, i), due[i], 0);
        }
    }

    private static void order() {
        TurningSums sums = Due.with("field f 7 order 3;let a in f be 2-3-4*2;let b in f be 2*3+4;let c in f be 2+3*4;"
            + "let d in f be conj z 1*z 1;let e in f be conj(z 1+1)*5;let g in f be turn 2 z 1+z 1;let h in f be 10-z 1*z 1-z 4");
        row("2-3-4*2", sums, 0, -9, 0);
        row("2*3+4", sums, 1, 10, 0);
        row("2+3*4", sums, 2, 14, 0);
        row("conj z 1*z 1", sums, 3, 1, 0);
        row("conj(z 1+1)*5", sums, 4, 0, -5);
        row("turn 2 z 1+z 1", sums, 5, -1, 0);
        row("10-z 1*z 1-z 4", sums, 6, 11, 0);
        Due.is(sums, "whole", sums.whole(3), 1, 0);
        Due.is(sums, "whole", sums.whole(4), 0, 0);
        TurningSums least = Due.with("field f 13 order 12;let a in f be z 4;let b in f be z 6;let c in f be z 11;let d in f be z 99");
        row("z 4 of 12", least, 0, -1, 0, 1, 0);
        row("z 6 of 12", least, 1, -1, 0, 0, 0);
        row("z 11 of 12", least, 2, 0, 1, 0, -1);
        row("z 99 of 12", least, 3, 0, 0, 0, 1);
        TurningSums nine = Due.with("field f 19 order 9;let a in f be z 6;let b in f be z 8;field g 11 order 10;let c in g be z 4;let d in g be z 9");
        row("z 6 of 9", nine, 0, -1, 0, 0, -1, 0, 0);
        row("z 8 of 9", nine, 1, 0, 0, -1, 0, 0, -1);
        row("z 4 of 10", nine, 2, -1, 1, -1, 1);
        row("z 9 of 10", nine, 3, 1, -1, 1, -1);
        TurningSums deep = Due.with("field f 7 order 3;let a in f be 1+(1+2*(1+2*(1+2*(1+2*(1+2*(1+2*(1+2*(1+2*z 1))))))));"
            + "let b in f be conj turn 2 conj turn 2 conj turn 2 conj turn 2 z 1;let c in f be conj conj conj conj conj conj conj z 1");
        row("brackets", deep, 0, 256, 256);
        row("conj and turn", deep, 1, 0, 1);
        row("conj", deep, 2, -1, -1);
        TurningSums bound = Due.with("field f 7 order 2;let a in f be 500*500*400;let b in f be 0-a");
        row("the most", bound, 0, 100000000);
        row("the least", bound, 1, -100000000);
    }

    private static void names() {
        TurningSums sums = Due.with("field f 7 order 3;field g 7 order 2;let a in f be z 1+2;let b in g be 5;let c in f be a*a-a;let d in g be b*b*z 1");
        row("a", sums, 0, 2, 1);
        row("b", sums, 1, 5);
        row("c", sums, 2, 1, 2);
        row("d", sums, 3, -25);
        Due.is(sums, "letField", sums.letField(0), 0, 0);
        Due.is(sums, "letField", sums.letField(1), 1, 0);
        Due.is(sums, "letField", sums.letField(3), 1, 0);
        Due.is(sums, "told(2)", sums.told(2), 4, 0);
    }

    private static void parts() {
        TurningSums sums = Due.with("field f 7 order 3;let a in f be z 1;let b in f be 0-1;let c in f be 7;let d in f be sum 1,1");
        Due.is(sums, "z is 3 to the 2", sums.letPart(0, 1), 2, 0);
        Due.is(sums, "z is 3 to the 4", sums.letPart(0, 2), 4, 0);
        Due.is(sums, "below 0", sums.letPart(1, 1), 6, 0);
        Due.is(sums, "the prime", sums.letPart(2, 2), 0, 0);
        Due.is(sums, "sum", sums.letPart(3, 1), sums.part(0, 1, 1, 1), 0);
        Due.is(sums, "sum", sums.letPart(3, 2), sums.part(0, 1, 1, 2), 0);
    }

    private static void refusals() {
        TurningSums sums = Due.with("field f 7 order 3;let a in f be 1");
        for (int l : new int[] {-1, 1, 8, Integer.MIN_VALUE, Integer.MAX_VALUE}) {
            Due.is(sums, "let", sums.let(l, 0), -1000000000, 1);
            Due.is(sums, "letField", sums.letField(l), -1, 1);
            Due.is(sums, "letPart", sums.letPart(l, 0), -1, 1);
            Due.is(sums, "whole", sums.whole(l), -1, 1);
        }
        for (int i : new int[] {-1, 2, 10, Integer.MIN_VALUE, Integer.MAX_VALUE}) {
            Due.is(sums, "let i", sums.let(0, i), -1000000000, 1);
        }
        for (int t : new int[] {-1, 0, 3, 4, Integer.MIN_VALUE, Integer.MAX_VALUE}) {
            Due.is(sums, "letPart t", sums.letPart(0, t), -1, 2);
        }
    }
}
