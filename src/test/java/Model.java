import java.math.BigInteger;
import java.util.ArrayDeque;
import java.util.ArrayList;
import java.util.Arrays;
import java.util.Deque;
import java.util.HashMap;
import java.util.List;
import java.util.Map;

/**
 * No test by itself: the document once more, in another way. Texts are read by a stack of what must come next,
 * rows are whole numbers without bounds, characters and counts come from going through all numbers.
 */
final class Model {
    static final int NONE = -1;
    private static final BigInteger MOST = BigInteger.valueOf(100000000);
    private static final List<String> KEPT = List.of("field", "equation", "let", "order", "in", "with", "to", "is", "be", "z", "sum", "conj", "turn");

    private static final class Fault extends RuntimeException {
        private static final long serialVersionUID = 1;
        private final int number;
        private final int place;

        Fault(int number, int place) {
            this.number = number;
            this.place = place;
        }
    }

    /** A field: its logs found by trying every root. */
    static final class Field {
        final int p;
        final int n;
        final int g;
        final int[] log;
        final BigInteger[] least;

        Field(int p, int n) {
            this.p = p;
            this.n = n;
            int root = 1;
            int[] logs = logs(root, p);
            while (Arrays.stream(logs).filter(e -> e >= 0).count() < p - 1) {
                root++;
                logs = logs(root, p);
            }
            g = root;
            log = logs;
            least = leastPolynomial(n);
        }

        private static int[] logs(int g, int p) {
            int[] logs = new int[p];
            Arrays.fill(logs, -1);
            int value = 1;
            for (int e = 0; e < p - 1; e++) {
                if (logs[value] < 0) {
                    logs[value] = e;
                }
                value = value * g % p;
            }
            return logs;
        }

        int length() {
            return least.length - 1;
        }

        boolean turns(int t) {
            return t >= 1 && t < n && common(t, n) == 1;
        }

        int character(int a, int x) {
            return x == 0 ? a == 0 ? 0 : -2 : a * log[x] % n;
        }

        BigInteger[] sum(int a, int b) {
            BigInteger[] wide = zeros(n);
            for (int x = 0; x < p; x++) {
                int left = character(a, x);
                int right = character(b, x == 0 ? 1 : x == 1 ? 0 : p + 1 - x);
                if (left >= 0 && right >= 0) {
                    wide[(left + right) % n] = wide[(left + right) % n].add(BigInteger.ONE);
                }
            }
            return settled(wide);
        }

        BigInteger[] z(int power) {
            BigInteger[] wide = zeros(n);
            wide[power % n] = BigInteger.ONE;
            return settled(wide);
        }

        BigInteger[] whole(long value) {
            BigInteger[] row = zeros(length());
            row[0] = BigInteger.valueOf(value);
            return row;
        }

        /** The rest when divided by the least polynomial. */
        BigInteger[] settled(BigInteger[] wide) {
            BigInteger[] rest = wide.clone();
            for (int high = rest.length - 1; high >= length(); high--) {
                BigInteger much = rest[high];
                for (int i = 0; i < least.length; i++) {
                    int at = high - length() + i;
                    rest[at] = rest[at].subtract(much.multiply(least[i]));
                }
            }
            return Arrays.copyOf(rest, length());
        }

        BigInteger[] times(BigInteger[] one, BigInteger[] other) {
            BigInteger[] wide = zeros(one.length + other.length);
            for (int i = 0; i < one.length; i++) {
                for (int j = 0; j < other.length; j++) {
                    wide[i + j] = wide[i + j].add(one[i].multiply(other[j]));
                }
            }
            return settled(wide);
        }

        BigInteger[] turned(BigInteger[] row, int t) {
            BigInteger[] wide = zeros(n);
            for (int i = 0; i < row.length; i++) {
                wide[i * t % n] = wide[i * t % n].add(row[i]);
            }
            return settled(wide);
        }

        int part(BigInteger[] row, int t) {
            BigInteger z = BigInteger.valueOf(g).modPow(BigInteger.valueOf((long) t * ((p - 1) / n)), BigInteger.valueOf(p));
            BigInteger all = BigInteger.ZERO;
            for (int i = 0; i < row.length; i++) {
                all = all.add(row[i].multiply(z.pow(i)));
            }
            return all.mod(BigInteger.valueOf(p)).intValue();
        }
    }

    private record Token(String text, int place, boolean word, boolean whole, boolean good) {
    }

    private record Equation(Field field, int[] factors, int[] powers, int is) {
        int ways(int wanted) {
            long[] ways = new long[field.p];
            ways[0] = 1;
            for (int i = 0; i < factors.length; i++) {
                long[] next = new long[field.p];
                for (int x = 0; x < field.p; x++) {
                    int value = factors[i];
                    for (int j = 0; j < powers[i]; j++) {
                        value = value * x % field.p;
                    }
                    for (int y = 0; y < field.p; y++) {
                        next[(y + value) % field.p] += ways[y];
                    }
                }
                ways = next;
            }
            return (int) ways[wanted];
        }
    }

    private record State(int field, BigInteger[][] rows) {
    }

    private static final class Book {
        final List<Field> fields = new ArrayList<>();
        final List<Equation> equations = new ArrayList<>();
        final List<BigInteger[]> lets = new ArrayList<>();
        final List<Integer> letFields = new ArrayList<>();
        final Map<String, Integer> fieldNames = new HashMap<>();
        final Map<String, Integer> letNames = new HashMap<>();
        final List<String> names = new ArrayList<>();
    }

    private final List<Integer> tape = new ArrayList<>();
    private Book book = new Book();
    private int fault;
    private int place;
    private int trouble;
    private State now = new State(0, null);
    private final Deque<State> done = new ArrayDeque<>();
    private final Deque<State> undone = new ArrayDeque<>();
    private final List<State> images = new ArrayList<>();

    static int common(int a, int b) {
        return b == 0 ? a : common(b, a % b);
    }

    private static BigInteger[] zeros(int many) {
        BigInteger[] row = new BigInteger[many];
        Arrays.fill(row, BigInteger.ZERO);
        return row;
    }

    /** x to the n, less 1, divided by what the orders below leave. */
    private static BigInteger[] leastPolynomial(int n) {
        BigInteger[] all = zeros(n + 1);
        all[n] = BigInteger.ONE;
        all[0] = BigInteger.ONE.negate();
        for (int d = 1; d < n; d++) {
            if (n % d == 0) {
                all = divided(all, leastPolynomial(d));
            }
        }
        return all;
    }

    private static BigInteger[] divided(BigInteger[] all, BigInteger[] by) {
        BigInteger[] rest = all.clone();
        BigInteger[] out = zeros(all.length - by.length + 1);
        for (int i = out.length - 1; i >= 0; i--) {
            out[i] = rest[i + by.length - 1];
            for (int j = 0; j < by.length; j++) {
                rest[i + j] = rest[i + j].subtract(out[i].multiply(by[j]));
            }
        }
        return out;
    }

    private static boolean isHuge(BigInteger[] row) {
        return Arrays.stream(row).anyMatch(number -> number.abs().compareTo(MOST) > 0);
    }

    // ---- the text

    int feed(int... numbers) {
        if (tape.size() > 880) {
            return NONE;
        }
        for (int number : numbers) {
            for (int i = 3; i >= 0; i--) {
                tape.add(number >>> 8 * i & 255);
            }
        }
        return tape.size();
    }

    int book(int n) {
        if (n < 0 || n > tape.size()) {
            return refused(2, NONE);
        }
        StringBuilder text = new StringBuilder();
        for (int i = 0; i < n; i++) {
            text.append((char) (int) tape.get(i));
        }
        tape.clear();
        try {
            book = new Reading(text.toString()).read();
        } catch (Fault met) {
            fault = met.number;
            place = met.place;
            return refused(4, NONE);
        }
        fault = 0;
        now = blank(0);
        done.clear();
        undone.clear();
        images.clear();
        return answered(book.fields.size());
    }

    /** What must come next lies on a stack; names in capitals stand for more than one token. */
    private static final class Reading {
        private final List<Token> tokens = new ArrayList<>();
        private final Deque<String> next = new ArrayDeque<>();
        private final Deque<BigInteger[]> values = new ArrayDeque<>();
        private final Deque<Integer> turns = new ArrayDeque<>();
        private final List<Integer> wholes = new ArrayList<>();
        private final Book book = new Book();
        private int at;
        private int depth;
        private String name;
        private int namePlace;
        private int field;
        private boolean huge;

        Reading(String text) {
            int i = 0;
            while (i < text.length()) {
                char sign = text.charAt(i);
                int end = i + 1;
                boolean word = sign >= 'a' && sign <= 'z';
                boolean whole = sign >= '0' && sign <= '9';
                while (end < text.length() && (word && text.substring(end, end + 1).matches("[a-z]") || whole && text.substring(end, end + 1).matches("[0-9]"))) {
                    end++;
                }
                if (sign != ' ') {
                    boolean good = word ? end - i <= 8 : whole ? end - i <= 3 : ";,+-*()".indexOf(sign) >= 0;
                    tokens.add(new Token(text.substring(i, end), i, word, whole, good));
                }
                i = end;
            }
            tokens.add(new Token("", text.length(), false, false, true));
        }

        Book read() {
            push("LINE", "MORE");
            while (!next.isEmpty()) {
                step(next.pop(), tokens.get(at));
            }
            if (book.fields.isEmpty()) {
                throw new Fault(6, tokens.get(at).place);
            }
            return book;
        }

        private void push(String... parts) {
            for (int i = parts.length - 1; i >= 0; i--) {
                next.push(parts[i]);
            }
        }

        private void step(String due, Token token) {
            if (!token.good) {
                throw new Fault(1, token.place);
            }
            switch (due) {
                case "LINE" -> line(token);
                case "MORE" -> more(token);
                case "NEW" -> newName(token);
                case "FIELD" -> fieldName(token);
                case "PRIME", "ORDER", "FACTOR", "EXPONENT", "RESULT", "Z", "CHARACTER", "TURN", "VALUE" -> whole(due, token);
                case "POWERS" -> optional(token, ",", "FACTOR", "to", "EXPONENT", "POWERS");
                case "SUMS" -> {
                    boolean less = token.text.equals("-");
                    if (less || token.text.equals("+")) {
                        at++;
                        push("ATOM", "PRODUCTS", less ? "!less" : "!plus", "SUMS");
                    }
                }
                case "PRODUCTS" -> optional(token, "*", "ATOM", "!times", "PRODUCTS");
                case "ATOM" -> atom(token);
                default -> {
                    if (due.startsWith("!")) {
                        act(due);
                    } else if (due.equals(token.text)) {
                        at++;
                    } else {
                        throw new Fault(1, token.place);
                    }
                }
            }
        }

        private void optional(Token token, String sign, String... parts) {
            if (token.text.equals(sign)) {
                at++;
                push(parts);
            }
        }

        private void more(Token token) {
            boolean end = token.text.isEmpty();
            if (!end && !token.text.equals(";")) {
                throw new Fault(1, token.place);
            }
            if (huge) {
                throw new Fault(7, namePlace);
            }
            if (!end) {
                at++;
                push("LINE", "MORE");
            }
        }

        private void line(Token token) {
            wholes.clear();
            int[] held = {book.fields.size(), book.equations.size(), book.lets.size()};
            int sort = List.of("field", "equation", "let").indexOf(token.text);
            if (sort < 0) {
                throw new Fault(1, token.place);
            }
            if (held[sort] == new int[] {4, 4, 8}[sort]) {
                throw new Fault(5, token.place);
            }
            at++;
            if (sort == 0) {
                push("NEW", "PRIME", "order", "ORDER", "!field");
            } else if (sort == 1) {
                push("NEW", "in", "FIELD", "with", "FACTOR", "to", "EXPONENT", "POWERS", "is", "RESULT", "!equation");
            } else {
                push("NEW", "in", "FIELD", "be", "ATOM", "PRODUCTS", "SUMS", "!let");
            }
        }

        private boolean isName(Token token) {
            return token.word && !KEPT.contains(token.text);
        }

        private void newName(Token token) {
            if (!isName(token)) {
                throw new Fault(1, token.place);
            }
            if (book.names.contains(token.text)) {
                throw new Fault(3, token.place);
            }
            name = token.text;
            namePlace = token.place;
            at++;
        }

        private void fieldName(Token token) {
            if (!isName(token)) {
                throw new Fault(1, token.place);
            }
            if (!book.fieldNames.containsKey(token.text)) {
                throw new Fault(2, token.place);
            }
            field = book.fieldNames.get(token.text);
            at++;
        }

        private Field field() {
            return book.fields.get(field);
        }

        private void whole(String due, Token token) {
            if (!token.whole) {
                throw new Fault(1, token.place);
            }
            int whole = Integer.parseInt(token.text);
            boolean good = switch (due) {
                case "PRIME" -> whole >= 3 && whole <= 199 && BigInteger.valueOf(whole).isProbablePrime(50);
                case "ORDER" -> whole >= 2 && whole <= 12 && (wholes.get(0) - 1) % whole == 0;
                case "FACTOR" -> whole >= 1 && whole <= field().p - 1;
                case "EXPONENT" -> whole >= 1 && whole <= 12;
                case "RESULT" -> whole <= field().p - 1;
                case "Z" -> whole <= 99;
                case "CHARACTER" -> whole <= field().n - 1;
                case "TURN" -> field().turns(whole);
                default -> true;
            };
            if (!good) {
                throw new Fault(4, token.place);
            }
            if (due.equals("FACTOR") && wholes.size() == 6) {
                throw new Fault(5, token.place);
            }
            wholes.add(whole);
            at++;
        }

        private void atom(Token token) {
            boolean deeper = List.of("(", "conj", "turn").contains(token.text);
            if (deeper && depth == 8) {
                throw new Fault(5, token.place);
            }
            if (deeper) {
                depth++;
            }
            if (token.whole) {
                push("VALUE", "!whole");
                return;
            }
            at++;
            switch (token.text) {
                case "z" -> push("Z", "!z");
                case "sum" -> push("CHARACTER", ",", "CHARACTER", "!sum");
                case "conj" -> push("ATOM", "!conj");
                case "turn" -> push("TURN", "!by", "ATOM", "!turn");
                case "(" -> push("ATOM", "PRODUCTS", "SUMS", ")", "!close");
                default -> letName(token);
            }
        }

        private void letName(Token token) {
            if (!isName(token)) {
                throw new Fault(1, token.place);
            }
            Integer number = book.letNames.get(token.text);
            if (number == null || book.letFields.get(number) != field) {
                throw new Fault(2, token.place);
            }
            made(book.lets.get(number));
        }

        private int last(int back) {
            return wholes.get(wholes.size() - back);
        }

        private void made(BigInteger[] row) {
            huge |= isHuge(row);
            values.push(row);
        }

        private void act(String act) {
            switch (act) {
                case "!field" -> {
                    book.fieldNames.put(name, book.fields.size());
                    book.fields.add(new Field(wholes.get(0), wholes.get(1)));
                    book.names.add(name);
                }
                case "!equation" -> {
                    int many = wholes.size() / 2;
                    int[] factors = new int[many];
                    int[] powers = new int[many];
                    for (int i = 0; i < many; i++) {
                        factors[i] = wholes.get(2 * i);
                        powers[i] = wholes.get(2 * i + 1);
                    }
                    book.equations.add(new Equation(field(), factors, powers, last(1)));
                    book.names.add(name);
                }
                case "!let" -> {
                    book.letNames.put(name, book.lets.size());
                    book.lets.add(values.pop());
                    book.letFields.add(field);
                    book.names.add(name);
                }
                case "!whole" -> made(field().whole(last(1)));
                case "!z" -> made(field().z(last(1)));
                case "!sum" -> made(field().sum(last(2), last(1)));
                case "!close" -> depth--;
                case "!by" -> turns.push(last(1));
                case "!conj" -> {
                    depth--;
                    made(field().turned(values.pop(), field().n - 1));
                }
                case "!turn" -> {
                    depth--;
                    made(field().turned(values.pop(), turns.pop()));
                }
                default -> {
                    BigInteger[] right = values.pop();
                    BigInteger[] left = values.pop();
                    made(act.equals("!times") ? field().times(left, right) : added(left, right, act.equals("!less") ? -1 : 1));
                }
            }
        }
    }

    private static BigInteger[] added(BigInteger[] row, BigInteger[] other, int k) {
        BigInteger[] all = row.clone();
        for (int i = 0; i < all.length; i++) {
            all[i] = all[i].add(other[i].multiply(BigInteger.valueOf(k)));
        }
        return all;
    }

    // ---- answers

    int fault() {
        return fault;
    }

    int where() {
        return trouble == 4 ? place : NONE;
    }

    int trouble() {
        return trouble;
    }

    private int refused(int why, int answer) {
        trouble = why;
        return answer;
    }

    private long refusedLong(int why, long answer) {
        trouble = why;
        return answer;
    }

    private int answered(int answer) {
        trouble = 0;
        return answer;
    }

    private long answeredLong(long answer) {
        trouble = 0;
        return answer;
    }

    private State blank(int f) {
        BigInteger[][] rows = new BigInteger[4][];
        Arrays.fill(rows, zeros(book.fields.get(f).length()));
        return new State(f, rows);
    }

    private boolean is(int number, int many) {
        return number >= 0 && number < many;
    }

    int primeOf(int f) {
        return is(f, book.fields.size()) ? book.fields.get(f).p : NONE;
    }

    int orderOf(int f) {
        return is(f, book.fields.size()) ? book.fields.get(f).n : NONE;
    }

    /** The answer of a call by its name; true is 1, and what led throws is Twins.THROWN. */
    long call(String name, int... a) {
        switch (name) {
            case "feed":
                return feed(a);
            case "book":
                return book(a[0]);
            case "fault":
                return fault();
            case "where":
                return where();
            case "trouble":
                return trouble;
            case "told":
                return told(a[0]);
            case "led":
                return led(a[0], a[1]);
            case "sign", "both", "form", "classSums", "classForms":
                return ofNumbers(name, a);
            case "let", "letField", "letPart", "whole":
                return ofLets(name, a);
            case "count", "countOf":
                return ofEquations(name, a);
            case "choose", "register", "take", "jacobi", "add", "times", "turn", "size", "undo", "redo", "image", "restore":
                return ofRegisters(name, a);
            default:
                return ofFields(name, a);
        }
    }

    private int told(int what) {
        int[] all = {book.fields.size(), book.equations.size(), book.lets.size(), now.field, done.size(), undone.size(), images.size(), tape.size()};
        return is(what, 8) ? all[what] : NONE;
    }

    private long led(int f, int i) {
        if (!is(f, book.fields.size())) {
            return Twins.THROWN;
        }
        Field field = book.fields.get(f);
        List<Integer> powers = powers(field);
        return is(i, powers.size()) ? powers.get(i) : Twins.THROWN;
    }

    private static List<Integer> powers(Field field) {
        List<Integer> powers = new ArrayList<>();
        for (int x = 1; x < field.p; x++) {
            boolean met = false;
            for (int y = 1; y < field.p; y++) {
                met |= BigInteger.valueOf(y).modPow(BigInteger.valueOf(field.n), BigInteger.valueOf(field.p)).intValue() == x;
            }
            if (met) {
                powers.add(x);
            }
        }
        return powers;
    }

    private static boolean isOddPrime(int p) {
        return p > 2 && p < 200 && BigInteger.valueOf(p).isProbablePrime(50);
    }

    private static int sign(long x, int p) {
        long rest = Math.floorMod(x, (long) p);
        for (long y = 1; y < p; y++) {
            if (y * y % p == rest) {
                return 1;
            }
        }
        return rest == 0 ? 0 : -1;
    }

    private long ofNumbers(String name, int[] a) {
        switch (name) {
            case "sign":
                return isOddPrime(a[1]) ? answered(sign(a[0], a[1])) : refused(1, -2);
            case "both":
                return isOddPrime(a[0]) && isOddPrime(a[1]) && a[0] != a[1] ? answered(sign(a[0], a[1]) * sign(a[1], a[0])) : refused(1, -2);
            case "form":
                if (!isOddPrime(a[0])) {
                    return refused(1, NONE);
                }
                return a[1] < 1 || a[1] > 99 ? refused(2, NONE) : answered(form(a[0], a[1]));
            case "classSums":
                if (!isOddPrime(a[0]) || a[0] < 7 || a[0] % 4 != 3) {
                    return refused(2, NONE);
                }
                int all = 0;
                for (int x = 1; x < a[0]; x++) {
                    all -= x * sign(x, a[0]);
                }
                return answered(all / a[0]);
            default:
                return a[0] < 3 || a[0] > 999 || a[0] % 4 == 1 || a[0] % 4 == 2 ? refused(2, NONE) : answered(classForms(a[0]));
        }
    }

    private static int form(int p, int d) {
        for (int y = 0; y < 15; y++) {
            for (int x = 0; x < 15; x++) {
                if (x * x + d * y * y == p) {
                    return y;
                }
            }
        }
        return -2;
    }

    private static int classForms(int d) {
        int all = 0;
        for (int a = 1; a < 40; a++) {
            for (int b = -a + 1; b <= a; b++) {
                int c = (b * b + d) / (4 * a);
                boolean least = 4 * a * c == b * b + d && c >= a && !(c == a && b < 0);
                all += least && common(common(a, Math.abs(b)), c) == 1 ? 1 : 0;
            }
        }
        return all;
    }

    private long ofLets(String name, int[] a) {
        int no = name.equals("let") ? -1000000000 : NONE;
        if (!is(a[0], book.lets.size())) {
            return refused(1, no);
        }
        BigInteger[] row = book.lets.get(a[0]);
        Field field = book.fields.get(book.letFields.get(a[0]));
        switch (name) {
            case "let":
                return is(a[1], row.length) ? answered(row[a[1]].intValueExact()) : refused(1, no);
            case "letField":
                return answered(book.letFields.get(a[0]));
            case "letPart":
                return field.turns(a[1]) ? answered(field.part(row, a[1])) : refused(2, NONE);
            default:
                return answered(Arrays.equals(row, field.whole(row[0].longValueExact())) ? 1 : 0);
        }
    }

    private long ofEquations(String name, int[] a) {
        if (!is(a[0], book.equations.size())) {
            return refused(1, NONE);
        }
        Equation equation = book.equations.get(a[0]);
        if (name.equals("count")) {
            return answered(equation.ways(equation.is));
        }
        return is(a[1], equation.field.p) ? answered(equation.ways(a[1])) : refused(2, NONE);
    }

    private long ofFields(String name, int[] a) {
        int no = name.equals("sum") || name.equals("echo") ? -1000 : NONE;
        if (!is(a[0], book.fields.size())) {
            return refused(1, no);
        }
        Field field = book.fields.get(a[0]);
        int n = field.n;
        int p = field.p;
        switch (name) {
            case "field":
                return is(a[1], 4) ? answered(new int[] {p, n, field.g, field.length()}[a[1]]) : refused(1, no);
            case "log":
                return is(a[1] - 1, p - 1) ? answered(field.log[a[1]]) : refused(2, no);
            case "character":
                return !is(a[1], n) ? refused(1, no) : !is(a[2], p) ? refused(2, no) : answered(field.character(a[1], a[2]));
            case "curve":
                return a[1] < 1 || a[1] > 4 ? refused(2, no) : answeredLong(curve(field, a[1]));
            case "power":
                return !is(a[1] - 1, p - 1) || a[2] < 1 || a[2] > 12 ? refused(2, no) : answered(isPower(a[1], a[2], p));
            case "even":
                return answered(even(field));
            case "echo":
                return !is(a[1], p) || !is(a[2], p) ? refused(2, no) : answered(echo(field, a[1], a[2]));
            case "noise":
                return !is(a[1], p) ? refused(2, no) : answeredLong(noise(field, a[1]));
            case "lowest":
                int best = 0;
                for (int r = 1; r < p; r++) {
                    best = noise(field, r) < noise(field, best) ? r : best;
                }
                return answered(best);
            default:
                return ofSums(name, field, a, no);
        }
    }

    private long ofSums(String name, Field field, int[] a, int no) {
        int n = field.n;
        boolean third = name.equals("relation");
        if (!is(a[1], n) || !is(a[2], n) || third && !is(a[3], n)) {
            return refused(1, no);
        }
        BigInteger[] sum = field.sum(a[1], a[2]);
        switch (name) {
            case "sum":
                return is(a[3], sum.length) ? answered(sum[a[3]].intValueExact()) : refused(1, no);
            case "norm":
                return answered(field.times(sum, field.turned(sum, n - 1))[0].intValueExact());
            case "relation":
                BigInteger[] left = field.times(sum, field.sum((a[1] + a[2]) % n, a[3]));
                BigInteger[] right = field.times(field.sum(a[2], a[3]), field.sum(a[1], (a[2] + a[3]) % n));
                return answered(Arrays.equals(left, right) ? 1 : 0);
            case "parts":
                int zeros = 0;
                for (int t = 1; t < n; t++) {
                    zeros += field.turns(t) && field.part(sum, t) == 0 ? 1 : 0;
                }
                return answered(zeros);
            case "part":
                return field.turns(a[3]) ? answered(field.part(sum, a[3])) : refused(2, no);
            case "law":
                if (!field.turns(a[3])) {
                    return refused(2, no);
                }
                boolean trivial = a[1] == 0 || a[2] == 0 || (a[1] + a[2]) % n == 0;
                return trivial ? refused(5, no) : answered(a[3] * a[1] % n + a[3] * a[2] % n < n ? 1 : 0);
            default:
                int all = 0;
                for (int x = 1; x <= field.p - 2; x++) {
                    all += field.log[x] % n == a[1] && field.log[x + 1] % n == a[2] ? 1 : 0;
                }
                return answered(all);
        }
    }

    private static int isPower(int x, int k, int p) {
        for (int y = 1; y < p; y++) {
            if (BigInteger.valueOf(y).pow(k).mod(BigInteger.valueOf(p)).intValue() == x) {
                return 1;
            }
        }
        return 0;
    }

    private static int even(Field field) {
        List<Integer> powers = powers(field);
        int[] often = new int[field.p];
        for (int x : powers) {
            for (int y : powers) {
                often[(x - y + field.p) % field.p]++;
            }
        }
        for (int d = 1; d < field.p; d++) {
            if (often[d] != often[1]) {
                return -2;
            }
        }
        return often[1];
    }

    private static int rowSign(Field field, int i) {
        return i == 0 ? 1 : sign(i, field.p);
    }

    private static int echo(Field field, int r, int s) {
        int all = 0;
        for (int i = 0; i + s < field.p; i++) {
            all += rowSign(field, (r + i) % field.p) * rowSign(field, (r + i + s) % field.p);
        }
        return all;
    }

    private static long noise(Field field, int r) {
        long all = 0;
        for (int s = 1; s < field.p; s++) {
            all += (long) echo(field, r, s) * echo(field, r, s);
        }
        return all;
    }

    /** The document's formula with all characters together; what comes out is whole. */
    private static long curve(Field field, int k) {
        BigInteger[] all = field.whole(0);
        for (int a = 0; a < field.n; a++) {
            for (int b = 0; b < field.n; b++) {
                BigInteger[] one = field.whole(1);
                if (a == 0 && b == 0) {
                    one = field.whole(BigInteger.valueOf(field.p).pow(k).longValueExact());
                } else if (a == 0 || b == 0) {
                    one = field.whole(0);
                } else if (a + b == field.n) {
                    one = added(field.whole(0), field.z(field.character(a, field.p - 1) * k), -1);
                } else {
                    for (int i = 0; i < k; i++) {
                        one = field.times(one, field.sum(a, b));
                    }
                    one = k % 2 == 0 ? added(field.whole(0), one, -1) : one;
                }
                all = added(all, one, 1);
            }
        }
        return all[0].longValueExact();
    }

    // ---- registers

    private long act(State next) {
        done.push(now);
        if (done.size() > 20) {
            done.removeLast();
        }
        undone.clear();
        now = next;
        return answered(1);
    }

    private long put(int r, BigInteger[] row) {
        if (isHuge(row)) {
            return refused(7, 0);
        }
        BigInteger[][] rows = now.rows.clone();
        rows[r] = row;
        return act(new State(now.field, rows));
    }

    private long ofRegisters(String name, int[] a) {
        switch (name) {
            case "choose":
                return is(a[0], book.fields.size()) ? act(blank(a[0])) : refused(1, 0);
            case "undo":
                if (done.isEmpty()) {
                    return refused(6, 0);
                }
                undone.push(now);
                now = done.pop();
                return answered(1);
            case "redo":
                if (undone.isEmpty()) {
                    return refused(6, 0);
                }
                done.push(now);
                now = undone.pop();
                return answered(1);
            case "image":
                if (book.fields.isEmpty()) {
                    return refused(1, NONE);
                }
                if (images.size() == 4) {
                    return refused(3, NONE);
                }
                images.add(now);
                return answered(images.size() - 1);
            case "restore":
                return is(a[0], images.size()) ? act(images.get(a[0])) : refused(1, 0);
            default:
                return ofOneRegister(name, a);
        }
    }

    private long ofOneRegister(String name, int[] a) {
        long no = name.equals("register") ? -1000000000 : name.equals("size") ? Long.MIN_VALUE : 0;
        boolean two = name.equals("add") || name.equals("times");
        if (book.fields.isEmpty() || !is(a[0], 4) || two && !is(a[1], 4)) {
            return refusedLong(1, no);
        }
        Field field = book.fields.get(now.field);
        BigInteger[] row = now.rows[a[0]];
        switch (name) {
            case "register":
                return is(a[1], row.length) ? answered(row[a[1]].intValueExact()) : refused(1, (int) no);
            case "take":
                if (!is(a[1], book.lets.size())) {
                    return refused(1, 0);
                }
                return book.letFields.get(a[1]) != now.field ? refused(5, 0) : put(a[0], book.lets.get(a[1]));
            case "jacobi":
                return is(a[1], field.n) && is(a[2], field.n) ? put(a[0], field.sum(a[1], a[2])) : refused(1, 0);
            case "add":
                return a[2] < -999 || a[2] > 999 ? refused(2, 0) : put(a[0], added(row, now.rows[a[1]], a[2]));
            case "times":
                return put(a[0], field.times(row, now.rows[a[1]]));
            case "turn":
                return field.turns(a[1]) ? put(a[0], field.turned(row, a[1])) : refused(2, 0);
            default:
                return size(field, row);
        }
    }

    private long size(Field field, BigInteger[] row) {
        BigInteger[] all = field.whole(1);
        for (int t = 1; t < field.n; t++) {
            if (field.turns(t)) {
                BigInteger[] turned = field.turned(row, t);
                all = field.times(all, turned);
                if (isHuge(turned) || isHuge(all)) {
                    return refusedLong(7, Long.MIN_VALUE);
                }
            }
        }
        return answeredLong(all[0].longValueExact());
    }
}
