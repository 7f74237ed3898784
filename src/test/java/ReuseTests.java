import java.lang.reflect.InvocationTargetException;
import java.lang.reflect.Method;
import java.lang.reflect.Modifier;
import java.util.ArrayList;
import java.util.Comparator;
import java.util.List;

/** An object that has had other books answers as one that has had but this one. */
public final class ReuseTests {
    private static final int[][] FIELDS = {{3, 2}, {7, 3}, {7, 6}, {13, 4}, {11, 5}, {31, 6}, {29, 7}, {17, 8}, {19, 9}, {41, 10}, {23, 11}, {37, 12}, {199, 11}};
    private static final List<Method> CALLS = new ArrayList<>();
    private static int seed = 41;

    private ReuseTests() {
    }

    public static void main(String[] args) throws IllegalAccessException {
        for (Method method : TurningSums.class.getDeclaredMethods()) {
            boolean ofTape = method.getName().equals("feed") || method.getName().equals("book");
            if (Modifier.isPublic(method.getModifiers()) && !ofTape) {
                CALLS.add(method);
            }
        }
        CALLS.sort(Comparator.comparing(Method::getName));
        for (int round = 0; round < 120; round++) {
            oneObject();
        }
        Due.end();
    }

    private static int any(int bound) {
        seed = seed * 1103515245 + 12345;
        return (seed >>> 8) % bound;
    }

    private static void oneObject() throws IllegalAccessException {
        TurningSums used = new TurningSums();
        TurningSums fresh = new TurningSums();
        int calls = 0;
        for (int books = 0; books < 6; books++) {
            String text = anyText();
            int fields = Due.book(used, text);
            TurningSums other = new TurningSums();
            Due.is("book '" + text + "'", fields, Due.book(other, text));
            if (fields >= 0) {
                fresh = other;
            } else {
                Due.is("fault of '" + text + "'", used.fault(), other.fault());
                Due.is("where of '" + text + "'", used.where(), other.where());
                // So that both have met the same latest fault.
                Due.book(fresh, text);
            }
            for (int i = 0; i < 18; i++) {
                Method method = CALLS.get(any(CALLS.size()));
                Object[] arguments = new Object[method.getParameterCount()];
                for (int j = 0; j < arguments.length; j++) {
                    arguments[j] = any(8) == 0 ? any(14) - 1 : any(3);
                }
                String what = "call " + calls++ + " " + method.getName() + " behind '" + text + "'";
                Due.is(what, call(method, used, arguments).equals(call(method, fresh, arguments)), true);
                Due.is("trouble of " + what, used.trouble(), fresh.trouble());
                Due.is("where of " + what, used.where(), fresh.where());
            }
        }
    }

    private static String call(Method method, TurningSums sums, Object[] arguments) throws IllegalAccessException {
        try {
            return "" + method.invoke(sums, arguments);
        } catch (InvocationTargetException thrown) {
            return "" + thrown.getCause().getClass();
        }
    }

    private static String anyText() {
        StringBuilder text = new StringBuilder();
        int fields = 1 + any(3);
        for (int i = 0; i < fields; i++) {
            int[] field = FIELDS[any(FIELDS.length)];
            text.append(i > 0 ? ";" : "").append("field ").append((char) ('f' + i)).append(' ').append(field[0]).append(" order ").append(field[1]);
        }
        for (int i = any(4); i > 0; i--) {
            text.append(";equation ").append((char) ('k' + i)).append(" in ").append((char) ('f' + any(fields))).append(" with ");
            for (int j = any(4); j >= 0; j--) {
                text.append(1 + any(2)).append(" to ").append(1 + any(12)).append(j > 0 ? "," : "");
            }
            text.append(" is ").append(any(3));
        }
        for (int i = any(6); i > 0; i--) {
            text.append(";let ").append((char) ('p' + i)).append(" in ").append((char) ('f' + any(fields))).append(" be ").append(anySum());
        }
        return text.toString();
    }

    private static String anySum() {
        String[] atoms = {"2", "999", "z 1", "z 5", "sum 1,1", "sum 0,1", "conj z 1", "turn 1 sum 1,0", "(z 2-3)", "u", "(((((((1+z 1)))))))"};
        String[] signs = {"+", "-", "*", "*"};
        StringBuilder sum = new StringBuilder(atoms[any(atoms.length)]);
        for (int i = any(4); i > 0; i--) {
            sum.append(signs[any(signs.length)]).append(atoms[any(atoms.length)]);
        }
        return sum.toString();
    }
}
