import java.lang.reflect.Method;
import java.util.HashMap;
import java.util.Map;

/** Calls on one object, each told as a text, so that what is called and what is printed are one. */
final class Run {
    private static final Map<String, Method> METHODS = methods();

    private final Due due;
    private final String label;
    private final ThrowRows x;

    Run(Due due, String label, ThrowRows x) {
        this.due = due;
        this.label = label;
        this.x = x;
    }

    private static Map<String, Method> methods() {
        Map<String, Method> methods = new HashMap<>();
        for (Method method : ThrowRows.class.getMethods()) {
            if (method.getDeclaringClass() == ThrowRows.class) {
                methods.put(method.getName(), method);
            }
        }
        return methods;
    }

    /** What an object answers to a call such as "beat(3, 0)"; min and max are the ends of the ints. */
    static long answer(ThrowRows x, String call) {
        int open = call.indexOf('(');
        String inside = call.substring(open + 1, call.length() - 1).strip();
        String[] told = inside.isEmpty() ? new String[0] : inside.split(" *, *");
        Object[] numbers = new Object[told.length];
        for (int at = 0; at < told.length; at++) {
            numbers[at] = number(told[at]);
        }
        try {
            return ((Number) METHODS.get(call.substring(0, open)).invoke(x, numbers)).longValue();
        } catch (ReflectiveOperationException thrown) {
            throw new IllegalStateException(call, thrown);
        }
    }

    private static int number(String told) {
        switch (told) {
            case "min":
                return Integer.MIN_VALUE;
            case "max":
                return Integer.MAX_VALUE;
            default:
                return Integer.parseInt(told);
        }
    }

    /** A call with the answer that is due. */
    Run is(String call, long want) {
        due.is(label + ": " + call, answer(x, call), want);
        return this;
    }

    /** The same call with a last number of 0, 1, .. and the answers that are due. */
    Run are(String callWithoutItsEnd, long... wanted) {
        for (int at = 0; at < wanted.length; at++) {
            is(callWithoutItsEnd + at + ")", wanted[at]);
        }
        return this;
    }

    /** Calls whose answers are no matter here. */
    Run does(String... calls) {
        for (String call : calls) {
            answer(x, call);
        }
        return this;
    }

    /** A TEXT is taken from SHEET 0, as bytes: pattern answers as due. */
    Run text(String text, long want) {
        due.is(label + ": the text " + text, Due.text(x, text), want);
        return this;
    }

    Run text(String text) {
        return text(text, text.length());
    }

    /** A SHEET gets a new row of ints. */
    Run numbers(int sheet, int... numbers) {
        Due.numbers(x, sheet, numbers);
        return this;
    }

    /** The cells of a SHEET of a SORT, and that there are no more. */
    Run cells(int sheet, int sort, long... wanted) {
        for (int i = 0; i < wanted.length; i++) {
            is("cell(" + sheet + ", " + i + ", " + sort + ")", wanted[i]);
        }
        return is("cell(" + sheet + ", " + wanted.length + ", " + sort + ")", Due.LOST).is("fault()", 3);
    }

    /** The THROWS of the PATTERN. */
    Run row(String wanted) {
        due.holds(label + ": the row is " + Due.told(x) + ", due is " + wanted, Due.told(x).equals(wanted));
        return this;
    }
}
