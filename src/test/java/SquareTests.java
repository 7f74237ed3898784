/** Promises 22 to 24, 26, 27: signs, forms and classes. */
public final class SquareTests {
    private SquareTests() {
    }

    public static void main(String[] args) {
        for (int p = -3; p <= 215; p++) {
            // An object is good for 512 calls.
            TurningSums sums = new TurningSums();
            checkSigns(sums, p);
            checkForms(sums, p);
            checkClassSums(sums, p);
            for (int q = -3; q <= 215; q += 1 + Math.abs(q) / 40) {
                checkBoth(sums, p, q);
            }
        }
        for (int d = -5; d <= 1010; d++) {
            checkClassForms(new TurningSums(), d);
        }
        known(new TurningSums());
        Due.end();
    }

    private static boolean isOddPrime(int p) {
        for (int d = 2; d * d <= p; d++) {
            if (p % d == 0) {
                return false;
            }
        }
        return p > 2 && p <= 199;
    }

    private static int sign(int x, int p) {
        int rest = Math.floorMod(x, p);
        int value = 1;
        for (int i = 0; i < (p - 1) / 2; i++) {
            value = value * rest % p;
        }
        return value == p - 1 ? -1 : value;
    }

    private static void checkSigns(TurningSums sums, int p) {
        for (int x : new int[] {0, 1, 2, 3, 5, -1, -7, 198, 199, 398, 1000, Integer.MAX_VALUE, Integer.MIN_VALUE, p, -p, p + 1}) {
            if (isOddPrime(p)) {
                Due.is(sums, "sign " + x + ", " + p, sums.sign(x, p), sign(x, p), 0);
            } else {
                Due.is(sums, "sign " + x + ", " + p, sums.sign(x, p), -2, 1);
            }
        }
    }

    private static void checkBoth(TurningSums sums, int p, int q) {
        if (isOddPrime(p) && isOddPrime(q) && p != q) {
            Due.is(sums, "both " + p + ", " + q, sums.both(p, q), p % 4 == 3 && q % 4 == 3 ? -1 : 1, 0);
        } else {
            Due.is(sums, "both " + p + ", " + q, sums.both(p, q), -2, 1);
        }
    }

    private static void checkForms(TurningSums sums, int p) {
        for (int d = -1; d <= 101; d++) {
            if (!isOddPrime(p)) {
                Due.is(sums, "form " + p + ", " + d, sums.form(p, d), -1, 1);
            } else if (d < 1 || d > 99) {
                Due.is(sums, "form " + p + ", " + d, sums.form(p, d), -1, 2);
            } else {
                Due.is(sums, "form " + p + ", " + d, sums.form(p, d), leastForm(p, d), 0);
            }
        }
    }

    private static int leastForm(int p, int d) {
        int least = -2;
        for (int x = 0; x <= 15; x++) {
            for (int y = 0; y <= 15; y++) {
                if (x * x + d * y * y == p && (least < 0 || y < least)) {
                    least = y;
                }
            }
        }
        return least;
    }

    private static void checkClassSums(TurningSums sums, int p) {
        if (isOddPrime(p) && p >= 7 && p % 4 == 3) {
            Due.is(sums, "classSums " + p, sums.classSums(p), classNumber(p), 0);
            Due.is(sums, "classForms " + p, sums.classForms(p), classNumber(p), 0);
        } else {
            Due.is(sums, "classSums " + p, sums.classSums(p), -1, 2);
        }
    }

    /** By the signs of the lower half: another formula than the document's. */
    private static int classNumber(int p) {
        int all = 0;
        for (int x = 1; x <= (p - 1) / 2; x++) {
            all += sign(x, p);
        }
        return all / (2 - sign(2, p));
    }

    private static void checkClassForms(TurningSums sums, int d) {
        if (d < 3 || d > 999 || Math.floorMod(d, 4) == 1 || Math.floorMod(d, 4) == 2) {
            Due.is(sums, "classForms " + d, sums.classForms(d), -1, 2);
            return;
        }
        int all = 0;
        for (int a = 1; a <= 40; a++) {
            for (int c = a; 4 * a * c <= d + a * a; c++) {
                for (int b = -a + 1; b <= a; b++) {
                    boolean least = b * b - 4 * a * c == -d && (a != c || b >= 0);
                    all += least && common(a, common(Math.abs(b), c)) == 1 ? 1 : 0;
                }
            }
        }
        Due.is(sums, "classForms " + d, sums.classForms(d), all, 0);
    }

    private static int common(int a, int b) {
        return b == 0 ? a : common(b, a % b);
    }

    private static void known(TurningSums sums) {
        int[][] classes = {{3, 1}, {4, 1}, {12, 1}, {15, 2}, {16, 1}, {20, 2}, {27, 1}, {28, 1}, {23, 3}, {47, 5}, {71, 7}, {163, 1}, {191, 13}, {199, 9}, {960, 8}};
        for (int[] pair : classes) {
            Due.is(sums, "classForms " + pair[0], sums.classForms(pair[0]), pair[1], 0);
        }
        for (int extreme : new int[] {Integer.MIN_VALUE, Integer.MAX_VALUE, Integer.MIN_VALUE + 3, Integer.MAX_VALUE - 4}) {
            Due.is(sums, "classForms " + extreme, sums.classForms(extreme), -1, 2);
            Due.is(sums, "classSums " + extreme, sums.classSums(extreme), -1, 2);
            Due.is(sums, "sign", sums.sign(1, extreme), -2, 1);
            Due.is(sums, "form", sums.form(extreme, 1), -1, 1);
            Due.is(sums, "form", sums.form(7, extreme), -1, 2);
            Due.is(sums, "both", sums.both(extreme, 7), -2, 1);
            Due.is(sums, "both", sums.both(7, extreme), -2, 1);
        }
    }
}
