import java.util.ArrayList;
import java.util.List;

/** Promises 6 to 14 and 21, 25, 28 to 32, 45: all fields there can be, held against sums over complex numbers and plain counting. */
public final class FieldTests {
    private static final double CLOSE = 1e-5;

    private FieldTests() {
    }

    public static void main(String[] args) {
        for (int p = 3; p <= 199; p += 2) {
            for (int n = 2; n <= 12 && isPrime(p); n++) {
                if ((p - 1) % n == 0) {
                    new Held(p, n).check();
                }
            }
        }
        refusals();
        knownAnswers();
        Due.end();
    }

    private static boolean isPrime(int p) {
        for (int d = 2; d * d <= p; d++) {
            if (p % d == 0) {
                return false;
            }
        }
        return p > 1;
    }

    private static int common(int a, int b) {
        return b == 0 ? a : common(b, a % b);
    }

    /** One field, reckoned again in a plain way. */
    private static final class Held {
        private final int p;
        private final int n;
        private final int g;
        private final int[] log;
        private final List<Integer> turns = new ArrayList<>();
        private TurningSums latest;
        private int asked;
        private final String name;

        Held(int p, int n) {
            this.p = p;
            this.n = n;
            name = "field " + p + " order " + n + ": ";
            int root = 1;
            while (!isRoot(root, p)) {
                root++;
            }
            g = root;
            log = new int[p];
            for (int x = 1; x < p; x++) {
                while (power(g, log[x], p) != x) {
                    log[x]++;
                }
            }
            for (int t = 1; t < n; t++) {
                if (common(t, n) == 1) {
                    turns.add(t);
                }
            }
        }

        /** An object is good for 512 calls: now and then a new one is asked. */
        private TurningSums sums() {
            if (asked % 200 == 0) {
                latest = Due.with("field f " + p + " order " + n);
            }
            asked++;
            return latest;
        }

        private static boolean isRoot(int g, int p) {
            boolean[] met = new boolean[p];
            int value = 1;
            int many = 0;
            for (int e = 0; e < p; e++) {
                many += met[value] ? 0 : 1;
                met[value] = true;
                value = value * g % p;
            }
            return many == p - 1;
        }

        private static int power(long base, int e, int p) {
            long value = 1;
            for (int i = 0; i < e; i++) {
                value = value * base % p;
            }
            return (int) value;
        }

        void check() {
            Due.is(name + "prime", sums().field(0, 0), p);
            Due.is(name + "order", sums().field(0, 1), n);
            Due.is(name + "root", sums().field(0, 2), g);
            Due.is(name + "row", sums().field(0, 3), turns.size());
            for (int x = 1; x < p; x++) {
                Due.is(name + "log " + x, sums().log(0, x), log[x]);
            }
            checkCharacters();
            checkSums();
            checkRelations();
            checkPowers();
            checkRows();
            Due.is(name + "curve", sums().curve(0, 1), pointsOverPrime());
        }

        private int character(int a, int x) {
            return x == 0 ? (a == 0 ? 0 : -2) : a * log[x] % n;
        }

        private void checkCharacters() {
            for (int a = 0; a < n; a++) {
                for (int x = 0; x < p; x += 1 + x / 20) {
                    Due.is(name + "character " + a + ", " + x, sums().character(0, a, x), character(a, x));
                }
            }
        }

        /** At each turn the sum as a complex number. */
        private double[] sumAt(int a, int b, int t) {
            double[] all = {0, 0};
            for (int x = 0; x < p; x++) {
                int left = character(a, x);
                int right = character(b, (1 - x + p) % p);
                if (left != -2 && right != -2) {
                    all[0] += Math.cos(2 * Math.PI * t * (left + right) / n);
                    all[1] += Math.sin(2 * Math.PI * t * (left + right) / n);
                }
            }
            return all;
        }

        private static double[] product(double[] a, double[] b) {
            return new double[] {a[0] * b[0] - a[1] * b[1], a[0] * b[1] + a[1] * b[0]};
        }

        private static boolean close(double[] a, double[] b) {
            return Math.abs(a[0] - b[0]) < CLOSE && Math.abs(a[1] - b[1]) < CLOSE;
        }

        private void checkSums() {
            for (int a = 0; a < n; a++) {
                for (int b = 0; b < n; b++) {
                    int[] row = new int[turns.size()];
                    for (int i = 0; i < row.length; i++) {
                        row[i] = sums().sum(0, a, b, i);
                    }
                    int zeros = 0;
                    for (int t : turns) {
                        double[] value = {0, 0};
                        for (int i = 0; i < row.length; i++) {
                            value[0] += row[i] * Math.cos(2 * Math.PI * t * i / n);
                            value[1] += row[i] * Math.sin(2 * Math.PI * t * i / n);
                        }
                        Due.is(name + "sum " + a + ", " + b + " turned by " + t, close(value, sumAt(a, b, t)), true);
                        int part = partOf(a, b, t);
                        zeros += part == 0 ? 1 : 0;
                        Due.is(name + "part " + a + ", " + b + ", " + t, sums().part(0, a, b, t), part);
                        checkLaw(a, b, t, part);
                    }
                    Due.is(name + "parts " + a + ", " + b, sums().parts(0, a, b), zeros);
                    double[] one = sumAt(a, b, 1);
                    Due.is(name + "norm " + a + ", " + b, sums().norm(0, a, b), Math.round(one[0] * one[0] + one[1] * one[1]));
                }
            }
        }

        private int partOf(int a, int b, int t) {
            int z = power(g, t * (p - 1) / n, p);
            int all = 0;
            for (int x = 0; x < p; x++) {
                int left = character(a, x);
                int right = character(b, (1 - x + p) % p);
                all += left == -2 || right == -2 ? 0 : power(z, left + right, p);
            }
            return all % p;
        }

        private void checkLaw(int a, int b, int t, int part) {
            if (a == 0 || b == 0 || (a + b) % n == 0) {
                TurningSums sums = sums();
                Due.is(sums, name + "law", sums.law(0, a, b, t), -1, 5);
            } else {
                int law = sums().law(0, a, b, t);
                Due.is(name + "law " + a + ", " + b + ", " + t, law, t * a % n + t * b % n < n ? 1 : 0);
                Due.is(name + "what the law says of " + a + ", " + b + ", " + t, law, part == 0 ? 1 : 0);
            }
        }

        private void checkRelations() {
            double[][][] table = new double[n][n][];
            for (int a = 0; a < n; a++) {
                for (int b = 0; b < n; b++) {
                    table[a][b] = sumAt(a, b, 1);
                }
            }
            for (int a = 0; a < n; a++) {
                for (int b = 0; b < n; b++) {
                    for (int c = (a + b) % 2; c < n; c += 2) {
                        double[] left = product(table[a][b], table[(a + b) % n][c]);
                        double[] right = product(table[b][c], table[a][(b + c) % n]);
                        Due.is(name + "relation " + a + ", " + b + ", " + c, sums().relation(0, a, b, c), close(left, right) ? 1 : 0);
                    }
                }
            }
        }

        private void checkPowers() {
            for (int k = 1; k <= 12; k++) {
                boolean[] met = new boolean[p];
                for (int y = 1; y < p; y++) {
                    met[power(y, k, p)] = true;
                }
                for (int x = 1; x < p; x += 1 + x / 10) {
                    Due.is(name + x + " a power " + k, sums().power(0, x, k), met[x] ? 1 : 0);
                }
            }
            boolean[] met = new boolean[p];
            for (int y = 1; y < p; y++) {
                met[power(y, n, p)] = true;
            }
            int rank = 0;
            for (int x = 1; x < p; x++) {
                if (met[x]) {
                    Due.is(name + "led " + rank, sums().led(0, rank), x);
                    rank++;
                }
            }
            Due.is(name + "led " + rank, Due.ledThrows(sums(), 0, rank), true);
            Due.is(name + "led -1", Due.ledThrows(sums(), 0, -1), true);
            checkMeetings();
            Due.is(name + "even", sums().even(0), evenness(met));
        }

        private void checkMeetings() {
            for (int i = 0; i < n; i++) {
                for (int j = 0; j < n; j++) {
                    int all = 0;
                    for (int x = 1; x <= p - 2; x++) {
                        all += log[x] % n == i && log[x + 1] % n == j ? 1 : 0;
                    }
                    Due.is(name + "meets " + i + ", " + j, sums().meets(0, i, j), all);
                }
            }
        }

        private int evenness(boolean[] powers) {
            int often = -1;
            for (int d = 1; d < p; d++) {
                int all = 0;
                for (int x = 1; x < p; x++) {
                    all += powers[x] && powers[(x + p - d) % p] ? 1 : 0;
                }
                if (often >= 0 && all != often) {
                    return -2;
                }
                often = all;
            }
            return often;
        }

        private void checkRows() {
            int[] row = new int[p];
            row[0] = 1;
            for (int x = 1; x < p; x++) {
                row[x] = log[x] % 2 == 0 ? 1 : -1;
            }
            long least = Long.MAX_VALUE;
            int best = -1;
            for (int r = 0; r < p; r++) {
                long noise = 0;
                for (int s = 1; s < p; s++) {
                    int echo = 0;
                    for (int i = 0; i + s < p; i++) {
                        echo += row[(r + i) % p] * row[(r + i + s) % p];
                    }
                    noise += (long) echo * echo;
                    if ((r + s) % 9 == 0) {
                        Due.is(name + "echo " + r + ", " + s, sums().echo(0, r, s), echo);
                    }
                }
                Due.is(name + "echo " + r + ", 0", sums().echo(0, r, 0), p);
                Due.is(name + "noise " + r, sums().noise(0, r), noise);
                if (noise < least) {
                    least = noise;
                    best = r;
                }
            }
            Due.is(name + "lowest", sums().lowest(0), best);
        }

        private int pointsOverPrime() {
            int all = 0;
            for (int x = 0; x < p; x++) {
                for (int y = 0; y < p; y++) {
                    all += (power(x, n, p) + power(y, n, p)) % p == 1 ? 1 : 0;
                }
            }
            return all;
        }
    }

    private static void refusals() {
        TurningSums sums = Due.with("field f 7 order 3;field g 13 order 12");
        for (int f : new int[] {-1, 2, 4, Integer.MAX_VALUE, Integer.MIN_VALUE}) {
            Due.is(sums, "field", sums.field(f, 0), -1, 1);
            Due.is(sums, "log", sums.log(f, 0), -1, 1);
            Due.is(sums, "character", sums.character(f, 0, 99), -1, 1);
            Due.is(sums, "sum", sums.sum(f, 0, 0, 0), -1000, 1);
            Due.is(sums, "norm", sums.norm(f, 0, 0), -1, 1);
            Due.is(sums, "relation", sums.relation(f, 0, 0, 0), -1, 1);
            Due.is(sums, "part", sums.part(f, 0, 0, 99), -1, 1);
            Due.is(sums, "law", sums.law(f, 0, 0, 99), -1, 1);
            Due.is(sums, "parts", sums.parts(f, 0, 0), -1, 1);
            Due.is(sums, "curve", sums.curve(f, 0), -1, 1);
            Due.is(sums, "power", sums.power(f, 0, 0), -1, 1);
            Due.is(sums, "meets", sums.meets(f, 0, 0), -1, 1);
            Due.is(sums, "even", sums.even(f), -1, 1);
            Due.is(sums, "echo", sums.echo(f, 99, 0), -1000, 1);
            Due.is(sums, "noise", sums.noise(f, 99), -1, 1);
            Due.is(sums, "lowest", sums.lowest(f), -1, 1);
            Due.is("led", Due.ledThrows(sums, f, 0), true);
        }
        Due.is(sums, "field what", sums.field(0, 4), -1, 1);
        Due.is(sums, "field what", sums.field(0, -1), -1, 1);
        Due.is(sums, "log 0", sums.log(0, 0), -1, 2);
        Due.is(sums, "log p", sums.log(0, 7), -1, 2);
        Due.is(sums, "log 6", sums.log(0, 6), 3, 0);
        Due.is(sums, "character x", sums.character(0, 0, 7), -1, 2);
        Due.is(sums, "character x", sums.character(0, 0, -1), -1, 2);
        Due.is(sums, "character at 0", sums.character(0, 2, 0), -2, 0);
        Due.is(sums, "sum i", sums.sum(0, 0, 0, 2), -1000, 1);
        Due.is(sums, "sum i", sums.sum(0, 0, 0, -1), -1000, 1);
        for (int a : new int[] {-1, 3, Integer.MAX_VALUE, Integer.MIN_VALUE}) {
            Due.is(sums, "character a", sums.character(0, a, 99), -1, 1);
            Due.is(sums, "sum a", sums.sum(0, a, 0, 0), -1000, 1);
            Due.is(sums, "sum b", sums.sum(0, 0, a, 0), -1000, 1);
            Due.is(sums, "norm a", sums.norm(0, a, 0), -1, 1);
            Due.is(sums, "norm b", sums.norm(0, 0, a), -1, 1);
            Due.is(sums, "relation a", sums.relation(0, a, 0, 0), -1, 1);
            Due.is(sums, "relation b", sums.relation(0, 0, a, 0), -1, 1);
            Due.is(sums, "relation c", sums.relation(0, 0, 0, a), -1, 1);
            Due.is(sums, "part a", sums.part(0, a, 0, 0), -1, 1);
            Due.is(sums, "part b", sums.part(0, 0, a, 0), -1, 1);
            Due.is(sums, "law a", sums.law(0, a, 0, 0), -1, 1);
            Due.is(sums, "law b", sums.law(0, 0, a, 0), -1, 1);
            Due.is(sums, "parts a", sums.parts(0, a, 0), -1, 1);
            Due.is(sums, "parts b", sums.parts(0, 0, a), -1, 1);
            Due.is(sums, "meets i", sums.meets(0, a, 0), -1, 1);
            Due.is(sums, "meets j", sums.meets(0, 0, a), -1, 1);
        }
        for (int t : new int[] {-1, 0, 12, 2, 3, 9, 13, Integer.MAX_VALUE, Integer.MIN_VALUE}) {
            Due.is(sums, "part t", sums.part(1, 1, 1, t), -1, 2);
            Due.is(sums, "law t ahead of a + b", sums.law(1, 6, 6, t), -1, 2);
        }
        Due.is(sums, "law a is 0", sums.law(1, 0, 1, 1), -1, 5);
        Due.is(sums, "law b is 0", sums.law(1, 1, 0, 1), -1, 5);
        Due.is(sums, "law a + b is 0", sums.law(1, 5, 7, 1), -1, 5);
        Due.is(sums, "law", sums.law(1, 7, 7, 1), 0, 0);
        for (int k : new int[] {0, 5, -1, Integer.MAX_VALUE}) {
            Due.is(sums, "curve k", sums.curve(0, k), -1, 2);
        }
        for (int k : new int[] {0, 13, -1, Integer.MIN_VALUE}) {
            Due.is(sums, "power k", sums.power(0, 1, k), -1, 2);
        }
        for (int x : new int[] {0, 7, -1, Integer.MIN_VALUE, Integer.MAX_VALUE}) {
            Due.is(sums, "power x", sums.power(0, x, 1), -1, 2);
        }
        for (int r : new int[] {7, -1, Integer.MIN_VALUE, Integer.MAX_VALUE}) {
            Due.is(sums, "echo r", sums.echo(0, r, 0), -1000, 2);
            Due.is(sums, "echo s", sums.echo(0, 0, r), -1000, 2);
            Due.is(sums, "noise r", sums.noise(0, r), -1, 2);
        }
        Due.is(sums, "curve", sums.curve(0, 4), 2328, 0);
        sums.noise(0, -1);
        Due.is(sums, "noise", sums.noise(0, 6) > 0, true, 0);
        sums.noise(0, -1);
        Due.is(sums, "lowest", sums.lowest(0), 3, 0);
        sums.parts(0, 1, -1);
        Due.is(sums, "parts", sums.parts(1, 1, 1), 2, 0);
        sums.size(9);
        Due.is(sums, "size", sums.size(0), 0, 0);
    }

    private static void knownAnswers() {
        TurningSums sums = Due.with("field a 37 order 4;field b 73 order 8;field c 11 order 2;field d 13 order 4");
        Due.is(sums, "fourth powers of 37", sums.even(0), 2, 0);
        Due.is(sums, "eighth powers of 73", sums.even(1), 1, 0);
        Due.is(sums, "squares of 11", sums.even(2), 2, 0);
        Due.is(sums, "fourth powers of 13", sums.even(3), -2, 0);
        Due.is("root of 73", sums.field(1, 2), 5);
        Due.is("a prime twice, 37 being 1 and 6 squared", sums.norm(0, 1, 1), 37);
    }
}
