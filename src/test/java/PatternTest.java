/** Promises 1 to 5: a new object, pattern, throwOf, clash, good. */
public final class PatternTest {
    private static final Due due = new Due();

    public static void main(String[] args) {
        newObject();
        patternTakesTexts();
        patternTellsTheFirstFault();
        patternMakesAllAnew();
        patternRefusesInOrder();
        throwOf();
        clash();
        good();
        due.end();
    }

    private static void newObject() {
        ThrowRows x = new ThrowRows();
        due.is("1 period", x.many(0), 0);
        due.is("1 hands", x.many(1), 0);
        due.is("1 images", x.many(2), 0);
        due.is("1 fault", x.fault(), 0);
        due.is("1 trace", x.trace(), 0);
        for (int k = 0; k < 4; k++) {
            due.is("1 lose", x.lose(k), 0);
        }
        for (int k = 0; k < 10; k++) {
            due.is("1 kind", x.kind(k, 0), 0);
        }
        for (int i = 0; i < 3; i++) {
            due.is("1 back", x.back(i), ThrowRows.STATE);
        }
    }

    private static void patternTakesTexts() {
        ThrowRows x = new ThrowRows();
        due.is("2 one digit", Due.text(x, "3"), 1);
        due.is("2 eight digits", Due.text(x, "01234567"), 8);
        due.holds("2 throws are as told", Due.told(x).equals("01234567"));
        due.is("2 a 9 and a 0", Due.text(x, "90"), 2);
        due.holds("2 throws are as told", Due.told(x).equals("90"));
        for (int sort = 0; sort < 3; sort++) {
            x.sheet(1, sort, 5);
            x.put(1, 2, '4');
            x.put(1, 3, '2');
            due.is("2 from the middle, sort " + sort, x.pattern(1, sort, 2, 2), 2);
            due.holds("2 throws are as told", Due.told(x).equals("42"));
        }
    }

    private static void patternTellsTheFirstFault() {
        ThrowRows x = Due.with("531");
        due.is("2 no code", Due.text(x, ""), -100);
        due.is("2 none taken of some", x.sheet(0, 0, 3), 1);
        due.is("2 none taken at the end", x.pattern(0, 0, 3, 0), -100);
        due.is("2 a letter", Due.text(x, "a"), -100);
        due.is("2 below 0", Due.text(x, "5/3"), -101);
        due.is("2 above 9", Due.text(x, "53:"), -102);
        due.is("2 the ninth", Due.text(x, "333333333"), -108);
        due.is("2 ahead of the ninth", Due.text(x, "3333333x3"), -107);
        due.is("2 forty", Due.text(x, "3333333333333333333333333333333333333333"), -108);
        Due.numbers(x, 1, 53, 53 + 256);
        due.is("2 a code beyond bytes", x.pattern(1, 2, 0, 2), -101);
        due.is("2 a wrong text is no fault", x.fault(), 0);
        due.holds("2 a wrong text changes nothing", Due.told(x).equals("531"));
    }

    private static void patternMakesAllAnew() {
        ThrowRows x = Due.with("531");
        x.hands(3);
        x.kind(4, 2);
        x.drop(5);
        x.keep(1);
        x.tell(0);
        due.is("2 a wrong text", Due.text(x, "5x"), -101);
        due.is("2 leaves hands", x.many(1), 3);
        due.is("2 leaves drops", x.drop(5), 5);
        due.is("2 leaves kinds", x.kind(4, 2), 2);
        due.is("2 anew", Due.text(x, "441"), 3);
        due.is("2 hands", x.many(1), 2);
        due.is("2 drops", x.drop(0), 0);
        due.is("2 kinds", x.kind(4, 0), 0);
        due.is("2 images stay", x.many(2), 1);
        due.is("2 trace stays", x.trace(), 1);
    }

    private static void patternRefusesInOrder() {
        ThrowRows x = Due.with("531");
        due.is("2 sheet -1", x.pattern(-1, 9, -1, -1), -1);
        due.is("2 sheet 4", x.pattern(4, 9, -1, -1), -1);
        due.is("2 sort -1", x.pattern(0, -1, -1, -1), -2);
        due.is("2 sort 3", x.pattern(0, 3, -1, -1), -2);
        due.is("2 another sort", x.pattern(0, 1, -1, -1), -12);
        due.is("2 CAST", x.fault(), 2);
        due.is("2 nothing", x.pattern(3, 1, -1, -1), -11);
        due.is("2 NULL", x.fault(), 1);
        due.is("2 n below 0", x.pattern(0, 0, -1, -1), -14);
        due.is("2 SIZE", x.fault(), 4);
        due.is("2 i below 0", x.pattern(0, 0, -1, 0), -13);
        due.is("2 INDEX", x.fault(), 3);
        due.is("2 refused", x.pattern(0, 5, 0, 0), -2);
        due.is("2 no fault", x.fault(), 0);
        due.is("2 beyond", x.pattern(0, 0, 1, 3), -13);
        due.is("2 i beyond, none taken", x.pattern(0, 0, 4, 0), -13);
        due.is("2 far beyond", x.pattern(0, 0, 2, Integer.MAX_VALUE), -13);
        due.is("2 far beyond", x.pattern(0, 0, Integer.MAX_VALUE, Integer.MAX_VALUE), -13);
        due.is("2 unknown", x.pattern(9, 0, 0, 0), -1);
        due.is("2 no fault", x.fault(), 0);
        due.holds("2 nothing has changed", Due.told(x).equals("531"));
    }

    private static void throwOf() {
        ThrowRows x = new ThrowRows();
        due.is("3 no pattern", x.throwOf(0), -1);
        Due.text(x, "90");
        due.is("3", x.throwOf(0), 9);
        due.is("3", x.throwOf(1), 0);
        due.is("3 -1", x.throwOf(-1), -1);
        due.is("3 period", x.throwOf(2), -1);
        due.is("3 greatest int", x.throwOf(Integer.MAX_VALUE), -1);
    }

    private static void clash() {
        ThrowRows x = new ThrowRows();
        due.is("4 no pattern", x.clash(), -3);
        Due.text(x, "531");
        due.is("4 none", x.clash(), -9);
        Due.text(x, "9");
        due.is("4 one beat alone", x.clash(), -9);
        Due.text(x, "10");
        due.is("4 with a throw 0", x.clash(), 1);
        Due.text(x, "543");
        due.is("4 the least j", x.clash(), 1);
        Due.text(x, "3210");
        due.is("4 all land in one", x.clash(), 1);
        Due.text(x, "510000");
        due.is("4 the least i, though its j is greater", x.clash(), 5);
        Due.text(x, "3010");
        due.is("4 the least j", x.clash(), 2);
        Due.text(x, "0100");
        due.is("4 i above 0", x.clash(), 12);
        Due.text(x, "44444454");
        due.is("4 the last two", x.clash(), 67);
    }

    private static void good() {
        ThrowRows x = new ThrowRows();
        due.is("5 outside ahead of state", x.good(-1), -2);
        due.is("5 outside ahead of state", x.good(5), -2);
        due.is("5 no pattern", x.good(0), -3);
        Due.text(x, "543");
        for (int what = 0; what < 5; what++) {
            due.is("5 not good", x.good(what), -3);
        }
        goodIs("531", 3, 5, 1, 1, 2);
        goodIs("504", 3, 5, 1, 0, 2);
        goodIs("52512", 3, 5, 0, 1, 3);
        goodIs("0", 0, 0, 1, 1, 1);
        goodIs("00", 0, 0, 0, 1, 2);
        goodIs("9", 9, 9, 1, 1, 1);
        goodIs("99999999", 9, 9, 0, 1, 1);
        goodIs("88888888", 8, 8, 0, 1, 8);
        goodIs("8040", 3, 8, 1, 0, 4);
        goodIs("90", -3, -3, -3, -3, -3);
        goodIs("40", 2, 4, 1, 0, 2);
    }

    private static void goodIs(String text, int... answers) {
        ThrowRows x = Due.with(text);
        for (int what = 0; what < 5; what++) {
            due.is("5 " + text + " good " + what, x.good(what), answers[what]);
        }
    }
}
