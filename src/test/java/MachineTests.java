import java.lang.reflect.InvocationTargetException;
import java.lang.reflect.Method;
import java.util.NoSuchElementException;

/** No call throws by itself: every call with odd arguments, in odd states, with odd texts. */
public final class MachineTests {
    private static final int[] ODD = {0, 1, 2, 3, 4, 7, 11, 12, 19, 20, 99, 198, 199, 900, -1, -2, -999, 999, 1000,
        Integer.MAX_VALUE, Integer.MIN_VALUE, Integer.MAX_VALUE - 1, Integer.MIN_VALUE + 1};
    private static final String[] BITS = {"field ", "equation ", "let ", " order ", " in ", " with ", " to ", " is ", " be ", "z ", "sum ", "conj ", "turn ",
        "f ", "g ", "a ", "b ", "e ", "7 ", "3 ", "2 ", "13 ", "999", "0", ";", ",", "+", "-", "*", "(", ")", " ", "#", "abcdefghi", "1234"};
    private static final String GOOD = "field f 7 order 3;field g 13 order 12;equation e in f with 1 to 3,2 to 2,3 to 1 is 1;"
        + "let u in f be sum 1,1;let v in f be u*conj u-turn 2(z 1+5);let w in g be ((z 99))*999";
    private static int seed = 99;

    private MachineTests() {
    }

    public static void main(String[] args) throws IllegalAccessException {
        everyCall(false);
        everyCall(true);
        oddTexts();
        Due.end();
    }

    private static int any(int bound) {
        seed = seed * 1103515245 + 12345;
        return (seed >>> 8) % bound;
    }

    private static void everyCall(boolean withBook) throws IllegalAccessException {
        for (Method method : TurningSums.class.getDeclaredMethods()) {
            if (!java.lang.reflect.Modifier.isPublic(method.getModifiers())) {
                continue;
            }
            int many = method.getParameterCount();
            TurningSums sums = withBook ? Due.with(GOOD) : new TurningSums();
            for (int round = 0; round < (many == 0 ? 30 : many == 1 ? ODD.length : 600); round++) {
                if (round % 200 == 199) {
                    // An object is good for 512 calls.
                    sums = withBook ? Due.with(GOOD) : new TurningSums();
                }
                Object[] arguments = new Object[many];
                for (int i = 0; i < many; i++) {
                    arguments[i] = many == 1 ? ODD[round] : ODD[any(ODD.length)];
                }
                call(method, sums, arguments);
                if (withBook && sums.told(0) == 0) {
                    Due.is("the book is lost by " + method.getName(), 0, 1);
                }
            }
        }
    }

    private static void call(Method method, TurningSums sums, Object[] arguments) throws IllegalAccessException {
        try {
            method.invoke(sums, arguments);
            Due.is(method.getName(), 0, 0);
        } catch (InvocationTargetException thrown) {
            boolean due = method.getName().equals("led") && thrown.getCause() instanceof NoSuchElementException;
            Due.is(method.getName() + " throws " + thrown.getCause(), due, true);
        }
    }

    private static void oddTexts() {
        for (int round = 0; round < 20000; round++) {
            TurningSums sums = new TurningSums();
            String text = round % 2 == 0 ? mutant() : heap();
            int fields = Due.book(sums, text);
            if (fields < 0) {
                boolean due = sums.trouble() == 4 && sums.fault() >= 1 && sums.fault() <= 7 && sums.where() >= 0 && sums.where() <= text.length();
                Due.is("fault of '" + text + "'", due, true);
                Due.is("fields of '" + text + "'", sums.told(0), 0);
            } else {
                Due.is("fields of '" + text + "'", fields >= 1 && fields <= 4 && sums.told(0) == fields, true);
                Due.is("fault of '" + text + "'", sums.fault(), 0);
            }
        }
    }

    private static String heap() {
        StringBuilder text = new StringBuilder("field f 7 order 3;let a in f be ");
        for (int i = any(30); i > 0; i--) {
            text.append(BITS[any(BITS.length)]);
        }
        return text.toString();
    }

    private static String mutant() {
        StringBuilder text = new StringBuilder(GOOD);
        for (int i = any(3); i >= 0; i--) {
            int at = any(text.length());
            int kind = any(3);
            if (kind == 0) {
                text.deleteCharAt(at);
            } else if (kind == 1) {
                text.insert(at, BITS[any(BITS.length)]);
            } else {
                text.setCharAt(at, (char) any(256));
            }
        }
        return text.toString();
    }
}
