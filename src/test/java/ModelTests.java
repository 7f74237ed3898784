import java.lang.reflect.InvocationTargetException;
import java.lang.reflect.Method;
import java.lang.reflect.Modifier;
import java.util.ArrayList;
import java.util.Comparator;
import java.util.List;

/** Runs of at most 512 calls, texts good and spoilt, held against the model call by call. */
public final class ModelTests {
    private static final int[][] FIELDS = {{3, 2}, {7, 3}, {7, 6}, {13, 4}, {11, 5}, {31, 6}, {29, 7}, {17, 8}, {19, 9}, {11, 10}, {23, 11}, {13, 12}, {7, 2}};
    private static final String[] BITS = {"field", "equation", "let", "order", "in", "with", "to", "is", "be", "z", "sum", "conj", "turn",
        "f", "g", "k", "p", "q", "r", "7", "3", "2", "13", "999", "100", "99", "0", "1", "12", ";", ",", "+", "-", "*", "(", ")", " ", "#",
        "abcdefgh", "abcdefghi", "1234", "500*500*400", "((((", "conj conj conj", "turn 1", "sum 1,1"};
    private static final List<Method> CALLS = new ArrayList<>();
    private static int seed = 1234567;

    private ModelTests() {
    }

    public static void main(String[] args) throws IllegalAccessException {
        for (Method method : TurningSums.class.getDeclaredMethods()) {
            if (Modifier.isPublic(method.getModifiers())) {
                CALLS.add(method);
            }
        }
        CALLS.sort(Comparator.comparing(Method::getName));
        int rounds = args.length > 0 ? Integer.parseInt(args[0]) : 300;
        seed += rounds;
        for (int round = 0; round < 20 * rounds; round++) {
            spoiltText();
        }
        for (int round = 0; round < rounds; round++) {
            oneRun(round);
        }
        Due.end();
    }

    private static int any(int bound) {
        seed = seed * 1103515245 + 12345;
        return (seed >>> 8) % bound;
    }

    private static String anyName() {
        String[] names = {"f", "g", "h", "k", "l", "m", "p", "q", "r", "s", "a", "aa", "sums", "abcdefgh"};
        return names[any(names.length)];
    }

    private static String anySum(int n, int depth) {
        StringBuilder text = new StringBuilder(anyAtom(n, depth));
        for (int i = any(4); i > 0; i--) {
            text.append("+-**".charAt(any(4))).append(anyAtom(n, depth));
        }
        return text.toString();
    }

    private static String anyAtom(int n, int depth) {
        switch (any(depth > 3 ? 5 : 10)) {
            case 0:
                return "" + any(1000);
            case 1:
                return "" + any(10);
            case 2:
                return "z " + any(100);
            case 3:
                return "sum " + any(n) + ", " + any(n);
            case 4:
                return any(4) == 0 ? "500*500*400" : any(3) == 0 ? "(((((((z 1)))))))" : "" + (char) (any(9) == 0 ? 'f' + any(10) : 'p' + any(8));
            case 5:
                return "conj " + anyAtom(n, depth + 1);
            case 6, 7:
                return "turn " + (any(5) == 0 ? any(n) : any(2) == 0 ? 1 : n - 1) + " " + anyAtom(n, depth + 1);
            default:
                return "(" + anySum(n, depth + 1) + ")";
        }
    }

    private static String anyText() {
        StringBuilder text = new StringBuilder();
        int fields = 1 + any(4);
        int[] orders = new int[fields];
        for (int i = 0; i < fields; i++) {
            int[] field = FIELDS[any(FIELDS.length)];
            orders[i] = field[1];
            text.append(i > 0 ? ";" : "").append("field ").append((char) ('f' + i)).append(' ').append(field[0]).append(" order ").append(field[1]);
        }
        for (int i = any(any(9) == 0 ? 6 : 5); i > 0; i--) {
            text.append(";equation ").append((char) ('k' + i)).append(" in ").append((char) ('f' + any(fields))).append(" with ");
            for (int j = any(any(9) == 0 ? 4 : 3); j >= 0; j--) {
                text.append(1 + any(2)).append(" to ").append(1 + any(12)).append(j > 0 ? "," : "");
            }
            text.append(" is ").append(any(3));
        }
        int lets = any(any(9) == 0 ? 10 : 9);
        for (int i = 0; i < lets; i++) {
            int f = any(fields);
            text.append(";let ").append((char) ('p' + i)).append(" in ").append((char) ('f' + f)).append(" be ").append(anySum(orders[f], 0));
        }
        return text.length() > 880 ? text.substring(0, any(880)) : text.toString();
    }

    private static String spoilt(String text) {
        StringBuilder spoilt = new StringBuilder(text);
        for (int i = any(3); i > 0; i--) {
            int at = any(spoilt.length() + 1);
            int kind = any(6);
            if (kind == 0 && at < spoilt.length()) {
                spoilt.deleteCharAt(at);
            } else if (kind == 1) {
                spoilt.insert(at, BITS[any(BITS.length)]);
            } else if (kind == 2) {
                spoilt.insert(at, " " + BITS[any(BITS.length)] + " ");
            } else if (kind == 3 && at < spoilt.length()) {
                spoilt.setCharAt(at, (char) any(any(2) == 0 ? 256 : 128));
            } else if (kind == 4) {
                spoilt.setLength(at);
            } else {
                int word = spoilt.indexOf(" ", at);
                int end = word < 0 ? -1 : spoilt.indexOf(" ", word + 1);
                if (end > 0) {
                    spoilt.replace(word + 1, end, any(2) == 0 ? anyName() : BITS[any(BITS.length)]);
                }
            }
        }
        return spoilt.length() > 900 ? spoilt.substring(0, 900) : spoilt.toString();
    }

    private static void feedBoth(TurningSums sums, Model model, String text) {
        int[] bytes = Due.bytes(text);
        for (int i = 0; i < bytes.length; i += 4) {
            bytes[i / 4] = bytes[i] << 24 | bytes[i + 1] << 16 | bytes[i + 2] << 8 | bytes[i + 3];
        }
        for (int i = 0; i < bytes.length / 4; i += 5) {
            int held = model.feed(bytes[i], bytes[i + 1], bytes[i + 2], bytes[i + 3], bytes[i + 4]);
            Due.is("feed", sums.feed(bytes[i], bytes[i + 1], bytes[i + 2], bytes[i + 3], bytes[i + 4]), held);
        }
    }

    private static void bookBoth(String text, TurningSums sums, Model model, int n) {
        Due.is("book of '" + text + "'", sums.book(n), model.book(n));
        Due.is("trouble of '" + text + "'", sums.trouble(), model.trouble());
        Due.is("fault of '" + text + "'", sums.fault(), model.fault());
        Due.is("where of '" + text + "'", sums.where(), model.where());
    }

    private static void spoiltText() {
        TurningSums sums = new TurningSums();
        Model model = new Model();
        String text = spoilt(anyText());
        feedBoth(sums, model, text);
        bookBoth(text, sums, model, text.length());
        for (int l = 0; l < sums.told(2); l++) {
            for (int i = 0; i < 3; i++) {
                Due.is("let " + l + ", " + i + " of '" + text + "'", sums.let(l, i), model.call("let", l, i));
            }
        }
    }

    private static int edge(Model model, int j) {
        int f = any(4);
        int p = model.primeOf(f);
        int n = model.orderOf(f);
        int[] edges = {-1, 0, 1, n - 1, n, p - 1, p, 4, 8, 999, -999, 1000, -1000, Integer.MIN_VALUE, Integer.MAX_VALUE};
        return any(3) == 0 ? edges[any(edges.length)] : j == 0 && any(3) > 0 ? any(5) : any(any(3) == 0 ? 200 : 5);
    }

    private static void oneRun(int round) throws IllegalAccessException {
        TurningSums sums = new TurningSums();
        Model model = new Model();
        int calls = 0;
        while (calls < 400) {
            String text = any(3) == 0 ? spoilt(anyText()) : anyText();
            if (any(8) > 0) {
                feedBoth(sums, model, text);
                bookBoth(text, sums, model, any(10) == 0 ? any(900) : text.length());
            }
            calls += 4 + text.length() / 20 + 1;
            for (int i = 20 + any(80); i > 0 && calls <= 508; i--) {
                // Acts are asked more often than the rest, so that runs of them grow long.
                Method method = CALLS.get(any(CALLS.size()));
                for (int again = 0; again < 2 && !isAct(method); again++) {
                    method = CALLS.get(any(CALLS.size()));
                }
                int[] arguments = new int[method.getParameterCount()];
                for (int j = 0; j < arguments.length; j++) {
                    arguments[j] = edge(model, j);
                }
                oneCall("run " + round + " call " + calls, sums, model, method, arguments);
                calls += 4;
            }
        }
    }

    private static boolean isAct(Method method) {
        return method.getReturnType() == boolean.class;
    }

    private static void oneCall(String what, TurningSums sums, Model model, Method method, int[] arguments) throws IllegalAccessException {
        Object[] boxed = new Object[arguments.length];
        StringBuilder shown = new StringBuilder(what).append(' ').append(method.getName());
        for (int i = 0; i < boxed.length; i++) {
            boxed[i] = arguments[i];
            shown.append(' ').append(arguments[i]);
        }
        long got;
        try {
            Object answer = method.invoke(sums, boxed);
            got = answer instanceof Boolean ? Twins.count((Boolean) answer) : ((Number) answer).longValue();
        } catch (InvocationTargetException thrown) {
            got = Twins.THROWN;
        }
        Due.is(shown.toString(), got, model.call(method.getName(), arguments));
        Due.is("trouble of " + shown, sums.trouble(), model.trouble());
        Due.is("where of " + shown, sums.where(), model.where());
        int told = any(9);
        if (told == 8) {
            Due.is("fault of " + shown, sums.fault(), model.fault());
        } else {
            Due.is("told " + told + " of " + shown, sums.told(told), model.call("told", told));
        }
    }
}
