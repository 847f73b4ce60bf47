/** Promises 21 to 24 and 30 to 33: kind, broken, drop, empty, tell, call, as, trace. */
public final class BallsTest {
    private static final Due due = new Due();

    public static void main(String[] args) {
        kind();
        broken();
        drop();
        empty();
        tell();
        call();
        as();
        traceWraps();
        due.end();
    }

    private static void kind() {
        ThrowRows x = new ThrowRows();
        due.is("21 unknown ahead of outside", x.kind(-1, 3), -1);
        due.is("21 unknown ahead of outside", x.kind(10, 3), -1);
        due.is("21 outside", x.kind(0, -1), -2);
        due.is("21 outside", x.kind(0, 3), -2);
        due.is("21 without a pattern", x.kind(9, 2), 0);
        due.is("21", x.kind(9, 1), 2);
        due.is("21 outside", x.kind(9, 3), -2);
        due.is("21", x.kind(9, 0), 1);
        due.is("21 each by itself", x.kind(8, 0), 0);
    }

    private static void broken() {
        ThrowRows x = new ThrowRows();
        due.is("22 no pattern", x.broken(), -3);
        Due.text(x, "543");
        due.is("22 not good", x.broken(), -3);
        Due.text(x, "9");
        due.is("22 balls may go up to 9", x.broken(), 0);
        x.kind(8, 1);
        x.kind(0, 2);
        x.kind(9, 2);
        due.is("22 just balls of the pattern", x.broken(), 257);
        Due.text(x, "6");
        x.kind(1, 1);
        x.kind(2, 2);
        due.is("22 heavy up to 6", x.broken(), 4);
        Due.text(x, "7");
        x.kind(1, 1);
        due.is("22 heavy no more than 6", x.broken(), 2);
        Due.text(x, "4");
        x.kind(3, 2);
        due.is("22 an egg up to 4", x.broken(), 0);
        Due.text(x, "5");
        x.kind(4, 2);
        due.is("22 an egg no more than 4", x.broken(), 16);
        Due.text(x, "531");
        x.kind(0, 2);
        x.kind(1, 2);
        x.kind(2, 2);
        due.is("22 by what each ball is thrown", x.broken(), 5);
        x.drop(1);
        due.is("22 dropped or not", x.broken(), 5);
        Due.text(x, "99999993");
        due.is("22 not good", x.broken(), -3);
        Due.text(x, "71");
        x.kind(0, 2);
        due.is("22", x.broken(), 1);
    }

    private static void drop() {
        ThrowRows x = new ThrowRows();
        due.is("23 outside ahead of state", x.drop(-1), -2);
        due.is("23 outside ahead of state", x.drop(1024), -2);
        due.is("23 no pattern", x.drop(0), -3);
        Due.text(x, "543");
        due.is("23 not good is fine", x.drop(1023), 0);
        due.is("23 outside", x.drop(1024), -2);
        due.is("23", x.drop(6), 1023);
        due.is("23", x.drop(0), 6);
    }

    private static void empty() {
        ThrowRows x = new ThrowRows();
        due.is("24 outside ahead of state", x.empty(-1), -2);
        due.is("24 outside ahead of state", x.empty(1000), -2);
        due.is("24 no pattern", x.empty(0), -3);
        Due.text(x, "543");
        due.is("24 not good", x.empty(0), -3);
        Due.text(x, "504");
        due.is("24 none dropped", x.empty(999), 0);
        x.drop(1);
        due.is("24 beat 0 counts", x.empty(0), 1);
        due.is("24", x.empty(4), 1);
        due.is("24", x.empty(5), 2);
        x.drop(1022);
        due.is("24", x.empty(1), 0);
        due.is("24", x.empty(2), 1);
        due.is("24", x.empty(3), 2);
        x.drop(1023);
        due.is("24 a throw 0 is not empty", x.empty(999), 667);
        x.turn(1);
        due.is("24 drops stay", x.empty(1), 1);
        Due.text(x, "504");
        due.is("24 a new text drops none", x.empty(999), 0);
    }

    private static void tell() {
        ThrowRows x = new ThrowRows();
        due.is("30 unknown", x.tell(-1), -1);
        due.is("30 unknown", x.tell(10), -1);
        due.is("33 nothing told", x.trace(), 0);
        due.is("30 a ball", x.tell(7), 7);
        due.is("33", x.trace(), 1);
        x.kind(7, 1);
        due.is("30 a heavy", x.tell(7), 107);
        due.is("33", x.trace(), (1 * 31 + 2) * 31 + 1);
        ThrowRows y = new ThrowRows();
        y.kind(9, 2);
        due.is("30 an egg", y.tell(9), 118);
        due.is("33", y.trace(), ((3 * 31 + 2) * 31 + 1) * 31 + 1);
    }

    private static void call() {
        ThrowRows x = new ThrowRows();
        due.is("31 unknown", x.call(-1), -1);
        due.is("31 unknown", x.call(10), -1);
        due.is("33 nothing called", x.trace(), 0);
        due.is("31 a ball", x.call(0), 9);
        due.is("33", x.trace(), 4);
        x.kind(0, 1);
        due.is("31 a heavy", x.call(0), 6);
        due.is("33", x.trace(), 4 * 31 + 4);
        x.kind(0, 2);
        due.is("31 an egg", x.call(0), 70);
        due.is("33", x.trace(), (4 * 31 + 4) * 31 + 5);
    }

    private static void as() {
        ThrowRows x = new ThrowRows();
        for (int kind = 0; kind < 3; kind++) {
            x.kind(3, kind);
            for (int other = 0; other < 3; other++) {
                due.is("32 " + kind + " as " + other, x.as(3, other), other <= kind ? 1 : -12);
                due.is("34 " + kind + " as " + other, x.fault(), other <= kind ? 0 : 2);
            }
        }
        x.kind(3, 0);
        x.as(3, 2);
        due.is("32 unknown ahead of outside", x.as(-1, 3), -1);
        due.is("34 refused", x.fault(), 0);
        x.as(3, 2);
        due.is("32 unknown", x.as(10, 0), -1);
        due.is("34 refused", x.fault(), 0);
        x.as(3, 2);
        due.is("32 outside", x.as(3, 3), -2);
        due.is("34 refused", x.fault(), 0);
        due.is("32 outside", x.as(3, -1), -2);
        due.is("33 as leaves no trace", x.trace(), 0);
    }

    private static void traceWraps() {
        ThrowRows x = new ThrowRows();
        int trace = 0;
        for (int i = 0; i < 40; i++) {
            x.call(5);
            trace = trace * 31 + 4;
            due.is("33 wraps", x.trace(), trace);
        }
    }
}
