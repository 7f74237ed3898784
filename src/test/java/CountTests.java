/** Promises 19 to 21: equations and the curve, counted by going through all unknowns. */
public final class CountTests {
    private CountTests() {
    }

    public static void main(String[] args) {
        smallEquations();
        greatEquation();
        curves();
        refusals();
        Due.end();
    }

    private static int power(int x, int k, int p) {
        int value = 1;
        for (int i = 0; i < k; i++) {
            value = value * x % p;
        }
        return value;
    }

    private static void smallEquations() {
        int[] primes = {3, 5, 7, 11, 13, 17, 19, 23};
        int seed = 7;
        for (int p : primes) {
            for (int round = 0; round < 12; round++) {
                int terms = 1 + round % 3;
                int[] c = new int[3];
                int[] k = new int[3];
                StringBuilder text = new StringBuilder("field f " + p + " order 2;equation e in f with ");
                for (int i = 0; i < terms; i++) {
                    seed = seed * 1103515245 + 12345;
                    c[i] = 1 + Math.floorMod(seed >> 8, p - 1);
                    k[i] = 1 + Math.floorMod(seed >> 16, 12);
                    text.append(i > 0 ? "," : "").append(c[i]).append(" to ").append(k[i]);
                }
                int is = Math.floorMod(seed >> 5, p);
                text.append(" is ").append(is);
                TurningSums sums = Due.with(text.toString());
                int[] due = allWays(p, terms, c, k);
                Due.is(sums, text + ": count", sums.count(0), due[is], 0);
                for (int other = 0; other < p; other++) {
                    Due.is(sums, text + ": countOf " + other, sums.countOf(0, other), due[other], 0);
                }
                Due.is(sums, text + ": count again", sums.count(0), due[is], 0);
            }
        }
    }

    private static int[] allWays(int p, int terms, int[] c, int[] k) {
        int[] ways = new int[p];
        int second = terms > 1 ? p : 1;
        int third = terms > 2 ? p : 1;
        for (int x = 0; x < p; x++) {
            for (int y = 0; y < second; y++) {
                for (int z = 0; z < third; z++) {
                    int all = c[0] * power(x, k[0], p);
                    all += terms > 1 ? c[1] * power(y, k[1], p) : 0;
                    all += terms > 2 ? c[2] * power(z, k[2], p) : 0;
                    ways[all % p]++;
                }
            }
        }
        return ways;
    }

    private static void greatEquation() {
        TurningSums sums = Due.with("field g 3 order 2;field f 199 order 11;equation e in f with 198 to 11,5 to 6,77 to 12 is 198;"
            + "equation d in f with 1 to 1,1 to 1,1 to 1 is 0;equation c in g with 2 to 12 is 2;equation b in g with 2 to 12 is 1");
        int[] due = allWays(199, 3, new int[] {198, 5, 77}, new int[] {11, 6, 12});
        Due.is(sums, "count", sums.count(0), due[198], 0);
        Due.is(sums, "countOf", sums.countOf(0, 0), due[0], 0);
        Due.is(sums, "count", sums.count(1), 199 * 199, 0);
        Due.is(sums, "count", sums.count(2), 2, 0);
        Due.is(sums, "count", sums.count(3), 0, 0);
        Due.is(sums, "countOf the bound of another field", sums.countOf(3, 3), -1, 2);
        Due.is(sums, "countOf", sums.countOf(3, 2), 2, 0);
    }

    private static void refusals() {
        TurningSums sums = Due.with("field f 7 order 3;equation e in f with 1 to 3 is 1");
        for (int e : new int[] {-1, 1, 4, Integer.MAX_VALUE, Integer.MIN_VALUE}) {
            Due.is(sums, "count", sums.count(e), -1, 1);
            Due.is(sums, "countOf", sums.countOf(e, 99), -1, 1);
        }
        for (int is : new int[] {-1, 7, Integer.MAX_VALUE, Integer.MIN_VALUE}) {
            Due.is(sums, "countOf", sums.countOf(0, is), -1, 2);
        }
        Due.is(sums, "countOf 6", sums.countOf(0, 6), 3, 0);
    }

    private static void curves() {
        int[][] fields = {{3, 2}, {5, 2}, {5, 4}, {7, 2}, {7, 3}, {7, 6}, {11, 2}, {11, 5}, {11, 10}, {13, 2}, {13, 3}, {13, 4}, {13, 6}, {13, 12}};
        for (int[] field : fields) {
            TurningSums sums = Due.with("field f " + field[0] + " order " + field[1]);
            for (int k = 1; k <= 4; k++) {
                Due.is(sums, "curve of " + field[0] + ", " + field[1] + " by " + k, sums.curve(0, k), points(field[0], field[1], k), 0);
            }
        }
        TurningSums sums = Due.with("field f 199 order 2;field g 37 order 9");
        Due.is(sums, "the circle", sums.curve(0, 4), 199L * 199 * 199 * 199 - 1, 0);
        Due.is(sums, "the circle", sums.curve(0, 1), 200, 0);
        Due.is(sums, "curve of 37, 9 by 2", sums.curve(1, 2), points(37, 9, 2), 0);
    }

    /** Elements of the greater field are polynomials, told as numbers of base p; reduced by a polynomial that has no factor. */
    private static long points(int p, int n, int k) {
        int[] rule = irreducible(p, k);
        int q = 1;
        for (int i = 0; i < k; i++) {
            q *= p;
        }
        int[] met = new int[q];
        for (int x = 0; x < q; x++) {
            int[] digits = digits(x, p, k);
            int[] value = digits(1, p, k);
            for (int i = 0; i < n; i++) {
                value = product(value, digits, rule, p, k);
            }
            met[number(value, p)]++;
        }
        long all = 0;
        for (int u = 0; u < q; u++) {
            int[] rest = digits(u, p, k);
            for (int i = 0; i < k; i++) {
                rest[i] = ((i == 0 ? 1 : 0) - rest[i] + p) % p;
            }
            all += (long) met[u] * met[number(rest, p)];
        }
        return all;
    }

    private static int[] digits(int x, int p, int k) {
        int[] digits = new int[k];
        for (int i = 0; i < k; i++) {
            digits[i] = x % p;
            x /= p;
        }
        return digits;
    }

    private static int number(int[] digits, int p) {
        int x = 0;
        for (int i = digits.length - 1; i >= 0; i--) {
            x = x * p + digits[i];
        }
        return x;
    }

    private static int[] product(int[] a, int[] b, int[] rule, int p, int k) {
        int[] wide = new int[2 * k];
        for (int i = 0; i < k; i++) {
            for (int j = 0; j < k; j++) {
                wide[i + j] = (wide[i + j] + a[i] * b[j]) % p;
            }
        }
        for (int high = 2 * k - 1; high >= k; high--) {
            for (int i = 0; i < k; i++) {
                wide[high - k + i] = Math.floorMod(wide[high - k + i] - wide[high] * rule[i], p);
            }
        }
        int[] out = new int[k];
        System.arraycopy(wide, 0, out, 0, k);
        return out;
    }

    /** Its k lower digits; degrees to 4: it has no root, and at 4 no factor of two either. */
    private static int[] irreducible(int p, int k) {
        int q = 1;
        for (int i = 0; i < k; i++) {
            q *= p;
        }
        for (int x = 0; x < q; x++) {
            int[] rule = digits(x, p, k);
            if (k == 1 || !hasRoot(rule, p, k) && (k < 4 || !hasSquareFactor(rule, p))) {
                return rule;
            }
        }
        throw new IllegalStateException();
    }

    private static boolean hasRoot(int[] rule, int p, int k) {
        for (int x = 0; x < p; x++) {
            int value = 1;
            for (int i = k - 1; i >= 0; i--) {
                value = (value * x + rule[i]) % p;
            }
            if (value == 0) {
                return true;
            }
        }
        return false;
    }

    private static boolean hasSquareFactor(int[] rule, int p) {
        for (int a = 0; a < p * p; a++) {
            for (int b = 0; b < p * p; b++) {
                int a0 = a % p;
                int a1 = a / p;
                int b0 = b % p;
                int b1 = b / p;
                if (rule[0] == a0 * b0 % p && rule[1] == (a0 * b1 + a1 * b0) % p && rule[2] == (a0 + b0 + a1 * b1) % p && rule[3] == (a1 + b1) % p) {
                    return true;
                }
            }
        }
        return false;
    }
}
