/**
 * Every refusal and every fault of every call, and that it changes nothing: what can be seen of an
 * object by later calls is the same as without the call, but for fault().
 */
public final class RefusalTest {
    private static final Due due = new Due();
    private static final long LOST = Due.LOST;
    private static final int UNKNOWN = -1, OUTSIDE = -2, STATE = -3, FULL = -4;
    private static final int NULL = 1, CAST = 2, INDEX = 3, SIZE = 4;

    /** What an object has been through ahead of the call. */
    private enum Past { NEW, GOOD, CLASHING }

    public static void main(String[] args) {
        withoutPattern();
        withClash();
        withPattern();
        patternFaults();
        filledFaults();
        sheetFaults();
        copyFaults();
        asFaults();
        due.end();
    }

    private static void withoutPattern() {
        for (String call : new String[] {"throwOf(0)", "state(0)", "orbit(0)", "swap(0, 1)", "greatest(0)"}) {
            refused(Past.NEW, call, UNKNOWN);
        }
        for (String call : new String[] {"clash()", "good(0)", "good(4)", "ball(0)", "ball(999)", "hands(1)", "hands(4)",
            "beat(0, 0)", "beat(999, 2)", "turn(0)", "turn(7)", "backward()", "keep(0)", "keep(2)", "back(0)", "back(2)",
            "like(0)", "like(2)", "broken()", "drop(0)", "drop(1023)", "empty(0)", "empty(999)"}) {
            refused(Past.NEW, call, STATE);
        }
        for (String call : new String[] {"good(5)", "ball(1000)", "hands(5)", "beat(1000, 0)", "beat(0, 3)", "turn(8)",
            "drop(1024)", "empty(1000)"}) {
            refused(Past.NEW, call, OUTSIDE);
        }
        for (String call : new String[] {"keep(3)", "back(3)", "like(3)"}) {
            refused(Past.NEW, call, UNKNOWN);
        }
    }

    private static void withClash() {
        for (String call : new String[] {"good(0)", "good(1)", "good(2)", "good(3)", "good(4)", "state(0)", "state(2)", "ball(0)",
            "ball(999)", "orbit(0)", "orbit(2)", "beat(0, 0)", "beat(0, 1)", "beat(999, 2)", "backward()", "broken()",
            "empty(0)", "empty(999)"}) {
            refused(Past.CLASHING, call, STATE);
        }
        for (String call : new String[] {"throwOf(3)", "state(3)", "orbit(3)", "swap(0, 3)", "swap(2, 1)", "greatest(3)"}) {
            refused(Past.CLASHING, call, UNKNOWN);
        }
        for (String call : new String[] {"good(5)", "ball(1000)", "beat(1000, 0)", "beat(0, 3)", "empty(1000)", "empty(-1)"}) {
            refused(Past.CLASHING, call, OUTSIDE);
        }
    }

    private static void withPattern() {
        for (String call : new String[] {"throwOf(-1)", "throwOf(4)", "state(-1)", "state(4)", "orbit(-1)", "orbit(4)",
            "swap(-1, 1)", "swap(1, 4)", "swap(1, 1)", "swap(3, 0)", "greatest(-1)", "greatest(4)", "keep(-1)", "keep(3)",
            "back(-1)", "back(3)", "like(-1)", "like(3)", "way(7, 7, 9, -2)", "kind(-1, 0)", "kind(10, 3)", "lose(-1)",
            "lose(4)", "tell(-1)", "tell(10)", "call(-1)", "call(10)"}) {
            refused(Past.GOOD, call, UNKNOWN);
        }
        for (String call : new String[] {"good(-1)", "good(5)", "ball(-1)", "ball(1000)", "hands(0)", "hands(5)", "beat(-1, 0)",
            "beat(1000, 0)", "beat(0, -1)", "beat(0, 3)", "turn(-1)", "turn(8)", "way(-1, 7, 9, 0)", "way(7, 512, 9, 0)",
            "way(7, 3, 9, 0)", "way(7, 7, 10, 0)", "way(7, 7, -1, -2)", "kind(0, -1)", "kind(9, 3)", "drop(-1)", "drop(1024)",
            "empty(-1)", "empty(1000)", "many(-1)", "many(3)"}) {
            refused(Past.GOOD, call, OUTSIDE);
        }
        for (String call : new String[] {"howMany(0, 3, 9)", "howMany(9, 3, 9)", "howMany(3, -1, 9)", "howMany(3, 10, 9)",
            "howMany(3, 3, -1)", "howMany(3, 3, 10)"}) {
            refused(Past.GOOD, call, LOST);
        }
        refused(Past.GOOD, "back(1)", STATE);
        refused(Past.GOOD, "like(1)", STATE);
        refused(Past.GOOD, "swap(0, 2)", STATE);
        refused(Past.GOOD, "swap(0, 1)", FULL);
        // so that it is known that a change would be seen
        refused(Past.GOOD, "swap(2, 3)", 1, INDEX, true);
    }

    private static void patternFaults() {
        faulted(Past.GOOD, "pattern(-1, 9, -1, -1)", UNKNOWN, 0);
        faulted(Past.GOOD, "pattern(4, 9, -1, -1)", UNKNOWN, 0);
        faulted(Past.GOOD, "pattern(0, -1, -1, -1)", OUTSIDE, 0);
        faulted(Past.GOOD, "pattern(3, 3, -1, -1)", OUTSIDE, 0);
        faulted(Past.GOOD, "pattern(0, 1, -1, -1)", -12, CAST);
        faulted(Past.GOOD, "pattern(1, 0, 0, 1)", -12, CAST);
        faulted(Past.GOOD, "pattern(3, 0, -1, -1)", -11, NULL);
        faulted(Past.GOOD, "pattern(0, 0, -1, -1)", -14, SIZE);
        faulted(Past.GOOD, "pattern(0, 0, -1, 0)", -13, INDEX);
        faulted(Past.GOOD, "pattern(0, 0, 6, 0)", -13, INDEX);
        faulted(Past.GOOD, "pattern(0, 0, 0, 6)", -13, INDEX);
        faulted(Past.GOOD, "pattern(0, 0, 5, 0)", -100, 0);
        faulted(Past.GOOD, "pattern(0, 0, 0, 5)", -104, 0);
        faulted(Past.GOOD, "pattern(2, 2, 3, 9)", -108, 0);
        faulted(Past.NEW, "pattern(0, 0, 0, 1)", -11, NULL);
    }

    private static void filledFaults() {
        faulted(Past.GOOD, "filled(-1, 9, -1, -1, 10, -2)", LOST, 0);
        faulted(Past.GOOD, "filled(4, 2, 0, 1, 3, -1)", LOST, 0);
        faulted(Past.GOOD, "filled(2, 3, -1, -1, 3, -1)", LOST, 0);
        faulted(Past.GOOD, "filled(2, 0, -1, -1, 10, -1)", LOST, 0);
        faulted(Past.GOOD, "filled(2, 0, -1, -1, -1, -1)", LOST, 0);
        faulted(Past.GOOD, "filled(2, 0, -1, -1, 3, -2)", LOST, CAST);
        faulted(Past.GOOD, "filled(3, 0, -1, -1, 3, -2)", LOST, NULL);
        faulted(Past.GOOD, "filled(2, 2, -1, -1, 3, -2)", LOST, SIZE);
        faulted(Past.GOOD, "filled(2, 2, -1, 0, 3, -2)", LOST, INDEX);
        faulted(Past.GOOD, "filled(2, 2, 4, 9, 3, -2)", LOST, INDEX);
        faulted(Past.GOOD, "filled(2, 2, 0, 0, 3, -1)", LOST, 0);
        faulted(Past.GOOD, "filled(1, 1, 0, 9, 3, -1)", LOST, 0);
        faulted(Past.GOOD, "filled(1, 1, 2, 1, 3, -1)", LOST, 0);
        faulted(Past.GOOD, "filled(1, 1, 0, 2, 3, -2)", LOST, 0);
        faulted(Past.GOOD, "filled(1, 1, 0, 2, 3, 2)", LOST, 0);
        faulted(Past.GOOD, "filled(1, 1, 1, 1, 4, 0)", LOST, 0);
        faulted(Past.GOOD, "filled(1, 1, 1, 1, 4, -1)", 0, 0);
        faulted(Past.GOOD, "filled(1, 1, 0, 2, 3, -1)", 1, 0);
    }

    private static void sheetFaults() {
        faulted(Past.GOOD, "sheet(-1, 3, 41)", UNKNOWN, 0);
        faulted(Past.GOOD, "sheet(4, 0, -1)", UNKNOWN, 0);
        faulted(Past.GOOD, "sheet(0, 3, -1)", OUTSIDE, 0);
        faulted(Past.GOOD, "sheet(0, -1, 3)", OUTSIDE, 0);
        faulted(Past.GOOD, "sheet(0, 0, 41)", OUTSIDE, 0);
        faulted(Past.GOOD, "sheet(0, 0, -1)", -14, SIZE);
        faulted(Past.NEW, "sheet(3, 2, min)", -14, SIZE);
        faulted(Past.GOOD, "put(-1, 0, 1)", UNKNOWN, 0);
        faulted(Past.GOOD, "put(4, -1, 1)", UNKNOWN, 0);
        faulted(Past.GOOD, "put(3, -1, 1)", -11, NULL);
        faulted(Past.GOOD, "put(0, -1, 1)", -13, INDEX);
        faulted(Past.GOOD, "put(0, 5, 1)", -13, INDEX);
        faulted(Past.NEW, "put(0, 0, 1)", -11, NULL);
        faulted(Past.GOOD, "cell(-1, 0, 3)", LOST, 0);
        faulted(Past.GOOD, "cell(4, 0, 0)", LOST, 0);
        faulted(Past.GOOD, "cell(3, -1, 3)", LOST, 0);
        faulted(Past.GOOD, "cell(0, -1, -1)", LOST, 0);
        faulted(Past.GOOD, "cell(0, -1, 1)", LOST, CAST);
        faulted(Past.GOOD, "cell(3, -1, 1)", LOST, NULL);
        faulted(Past.GOOD, "cell(0, -1, 0)", LOST, INDEX);
        faulted(Past.GOOD, "cell(0, 5, 0)", LOST, INDEX);
    }

    private static void copyFaults() {
        faulted(Past.GOOD, "copy(-1, -1, 3, 0, 0)", UNKNOWN, 0);
        faulted(Past.GOOD, "copy(3, -1, 4, 0, 0)", UNKNOWN, 0);
        faulted(Past.GOOD, "copy(3, -1, 0, 0, -1)", -11, NULL);
        faulted(Past.GOOD, "copy(0, -1, 3, 0, -1)", -11, NULL);
        faulted(Past.GOOD, "copy(0, -1, 1, 0, -1)", -12, CAST);
        faulted(Past.GOOD, "copy(0, -1, 0, 1, 1)", -13, INDEX);
        faulted(Past.GOOD, "copy(0, 1, 0, -1, 1)", -13, INDEX);
        faulted(Past.GOOD, "copy(0, 1, 0, 0, -1)", -13, INDEX);
        faulted(Past.GOOD, "copy(0, 1, 0, 0, 5)", -13, INDEX);
        faulted(Past.GOOD, "copy(0, 0, 0, 1, 5)", -13, INDEX);
        faulted(Past.GOOD, "copy(0, 6, 0, 0, 0)", -13, INDEX);
        faulted(Past.GOOD, "copy(0, 0, 0, 6, 0)", -13, INDEX);
        faulted(Past.GOOD, "copy(0, 1, 0, 0, max)", -13, INDEX);
    }

    private static void asFaults() {
        faulted(Past.GOOD, "as(-1, 3)", UNKNOWN, 0);
        faulted(Past.GOOD, "as(10, 0)", UNKNOWN, 0);
        faulted(Past.GOOD, "as(0, 3)", OUTSIDE, 0);
        faulted(Past.GOOD, "as(0, -1)", OUTSIDE, 0);
        faulted(Past.GOOD, "as(0, 2)", -12, CAST);
        faulted(Past.GOOD, "as(1, 1)", -12, CAST);
        faulted(Past.GOOD, "as(4, 2)", 1, 0);
        faulted(Past.GOOD, "as(0, 1)", 1, 0);
    }

    /** A call that names no FAULTS: fault() stays, too. */
    private static void refused(Past past, String call, long want) {
        refused(past, call, want, past == Past.NEW ? 0 : INDEX, false);
    }

    private static void faulted(Past past, String call, long want, int fault) {
        refused(past, call, want, fault, false);
    }

    private static void refused(Past past, String call, long want, int fault, boolean changes) {
        ThrowRows x = made(past);
        String told = past + " " + call;
        due.is(told, Run.answer(x, call), want);
        due.is(told + ", then fault()", x.fault(), fault);
        due.holds(told + (changes ? " changes something" : " changes nothing"), seen(x).equals(seen(made(past))) != changes);
    }

    private static ThrowRows made(Past past) {
        ThrowRows x = new ThrowRows();
        if (past == Past.NEW) {
            return x;
        }
        Due.text(x, "7531");
        run(x, "keep(0)");
        Due.text(x, "1911x");
        run(x, "pattern(0, 0, 0, 4)", "keep(2)");
        run(x, "sheet(1, 1, 10)", "put(1, 0, -1)", "put(1, 1, 3)", "put(1, 2, 300)");
        Due.numbers(x, 2, 1, 2, 3, 48, 49, 50, 51, 52, 53, 54, 55, 56);
        if (past == Past.CLASHING) {
            Due.numbers(x, 1, '5', '4', '3');
            run(x, "pattern(1, 2, 0, 3)");
        }
        run(x, "hands(3)", "kind(0, 1)", "kind(4, 2)", "drop(37)", "tell(4)", "call(0)", "put(0, 9, 9)");
        return x;
    }

    private static void run(ThrowRows x, String... calls) {
        for (String call : calls) {
            Run.answer(x, call);
        }
    }

    /** All that can be seen of an object but fault(); it is used up by this. */
    private static String seen(ThrowRows x) {
        StringBuilder seen = new StringBuilder();
        seen.append(Due.told(x)).append(' ').append(x.many(0)).append(x.many(1)).append(x.many(2));
        seen.append(" trace ").append(x.trace()).append(" dropped ").append(x.drop(0)).append(" kinds ");
        for (int k = 0; k < 10; k++) {
            seen.append(x.kind(k, 0));
        }
        for (int k = 0; k < 4; k++) {
            seen.append(" sheet ").append(cells(x, k));
        }
        for (int i = 0; i < 3; i++) {
            seen.append(" image ").append(x.back(i)).append(' ').append(Due.told(x));
        }
        return seen.toString();
    }

    private static String cells(ThrowRows x, int k) {
        StringBuilder cells = new StringBuilder();
        for (int sort = 0; sort < 3; sort++) {
            boolean isOfIt = x.cell(k, 0, sort) != LOST || x.fault() == INDEX;
            for (int i = 0; isOfIt && i < 41; i++) {
                long cell = x.cell(k, i, sort);
                cells.append(sort).append(':').append(cell == LOST ? "end" : cell + " ");
                isOfIt = cell != LOST;
            }
        }
        return cells.toString();
    }
}
