/** Term 1 and promises 1 to 5. */
final class PatternSentences {
    private final Sentences s;

    private PatternSentences(Sentences s) {
        this.s = s;
    }

    static void test(Sentences s) {
        PatternSentences these = new PatternSentences(s);
        these.texts();
        these.textsMakeAllAnew();
        these.throwsAndClashes();
        these.newObject();
        these.pattern();
        these.patternFaults();
        these.throwOfAndClash();
        these.good();
    }

    private void texts() {
        s.of("T1", "A PATTERN by a TEXT: 1 to 8 digits:")
            .text("", -100).is("many(0)", 0).text("7", 1).is("many(0)", 1)
            .text("12345678", 8).is("many(0)", 8).text("123456789", -108).is("many(0)", 8);
        s.of("T1", "THROWS of BEATS 0, 1, .. ; how many there are is its PERIOD n.", "90125678")
            .row("90125678").is("many(0)", 8).text("4").row("4").is("many(0)", 1).is("throwOf(1)", -1);
        s.of("T1", "FIRST FAULT: the place (from 0 on) of the first code with which no TEXT goes on")
            .text("x31", -100).text("5x1", -101).text("53x", -102).text("xxx", -100).text("5xx", -101)
            .text("1234567x", -107).numbers(1, 48, 49, -1, 50).is("pattern(1, 2, 0, 4)", -102)
            .is("pattern(1, 2, 1, 3)", -101).is("pattern(1, 2, 2, 2)", -100);
        s.of("T1", "(a ninth one, too)")
            .text("333333333", -108).text("33333333x", -108).text("3333333x3", -107).text("3333333333", -108)
            .is("many(0)", 0);
        s.of("T1", "how many codes there are, if it just ends too soon.", "531")
            .text("", -100).is("fault()", 0).does("sheet(0, 0, 2)").is("pattern(0, 0, 2, 0)", -100).row("531");
        s.of("T1", "(Codes: digits 48 .. 57.)")
            .numbers(1, 47, 48, 57, 58, 0, 9, 304, Integer.MIN_VALUE + 48, -48)
            .is("pattern(1, 2, 0, 1)", -100).is("pattern(1, 2, 1, 2)", 2).row("09").is("pattern(1, 2, 3, 1)", -100)
            .is("pattern(1, 2, 4, 1)", -100).is("pattern(1, 2, 5, 1)", -100).is("pattern(1, 2, 6, 1)", -100)
            .is("pattern(1, 2, 7, 1)", -100).is("pattern(1, 2, 8, 1)", -100).row("09");
    }

    private void textsMakeAllAnew() {
        s.of("T1", "A TEXT that is taken makes the PATTERN anew:", "7531").text("40").row("40").is("good(0)", 2)
            .text("4x", -101).row("40");
        s.of("T1", "HANDS 2", "531").is("hands(4)", 2).text("5x", -101).is("many(1)", 4).text("531").is("many(1)", 2)
            .is("hands(1)", 2);
        s.of("T1", "all BALLS of kind 0", "531").does("kind(0, 1)", "kind(5, 2)", "kind(9, 2)")
            .text("5x", -101).is("kind(9, 2)", 2).text("531")
            .is("kind(0, 0)", 0).is("kind(5, 0)", 0).is("kind(9, 0)", 0);
        s.of("T1", "none DROPPED", "531").is("drop(1023)", 0).text("5x", -101).is("drop(1023)", 1023).text("531")
            .is("empty(999)", 0).is("drop(0)", 0);
        s.of("T1", "IMAGES stay.", "531").does("keep(0)", "keep(2)").text("40").is("many(2)", 2).is("back(1)", -3)
            .is("back(0)", 3).row("531").text("9").is("back(2)", 3).row("531");
    }

    private void throwsAndClashes() {
        s.of("T1", "Beat by beat, without end, to both sides: in beat b that is of BEAT b modulo n, a ball is thrown that "
                + "lands (and is thrown on) as many beats later as its THROW tells;", "504")
            .is("ball(0)", 0).is("ball(5)", 0).is("ball(9)", 0).is("ball(14)", 0).is("ball(999)", 0)
            .is("ball(996)", 1).is("ball(998)", 2)
            .is("state(0)", 13).is("beat(0, 2)", 2);
        s.of("T1", "THROW 0: there is none.", "504")
            .is("ball(1)", -9).is("ball(4)", -9).is("beat(1, 1)", -9).does("drop(1023)").is("empty(2)", 2)
            .text("0").is("ball(0)", -9).is("ball(999)", -9).is("state(0)", 0).is("broken()", 0);
        s.of("T1", "A CLASH: two BEATS i < j that land in one beat (i and THROW, j and THROW alike modulo n):", "21")
            .is("clash()", 1).text("23").is("clash()", 1).text("29").is("clash()", 1).text("24").is("clash()", -9)
            .text("90000000").is("clash()", 1).text("80000000").is("clash()", -9).text("00000001").is("clash()", 7)
            .text("00000008").is("clash()", -9).text("00000009").is("clash()", 7);
        s.of("T1", "the first: the least i, then the least j.", "3210")
            .is("clash()", 1).text("0212").is("clash()", 12).text("500210").is("clash()", 3).text("501000").is("clash()", 5)
            .text("0001").is("clash()", 3).text("0003").is("clash()", 23).text("321000").is("clash()", 1);
        s.of("T1", "A PATTERN without a CLASH is GOOD: it has BALLS: all THROWS together by n.", "97531")
            .is("good(0)", 5).text("0").is("good(0)", 0).text("9").is("good(0)", 9).text("99999999").is("good(0)", 9)
            .text("00000008").is("good(0)", 1).text("543").is("good(0)", -3).text("442").is("good(0)", -3);
    }

    private void newObject() {
        s.of("P1", "No PATTERN (PERIOD 0)").is("many(0)", 0).is("throwOf(0)", -1).is("clash()", -3).is("many(1)", 0);
        s.of("P1", "no IMAGES").is("many(2)", 0).are("back(", -3, -3, -3).are("like(", -3, -3, -3);
        s.of("P1", "SHEETS have nothing").are("lose(", 0, 0, 0, 0)
            .is("put(0, 0, 0)", -11).is("put(1, 0, 0)", -11).is("put(2, 0, 0)", -11).is("put(3, 0, 0)", -11);
        Run x = s.of("P1", "all BALLS of kind 0.");
        for (int k = 0; k < 10; k++) {
            x.is("call(" + k + ")", 9).is("tell(" + k + ")", k).is("kind(" + k + ", 2)", 0);
        }
    }

    private void pattern() {
        s.of("P2", "A PATTERN by a TEXT of n cells of a SHEET from i on")
            .numbers(2, 'x', '5', '3', '1', 'x').is("pattern(2, 2, 1, 3)", 3).row("531")
            .is("pattern(2, 2, 2, 2)", 2).row("31").is("pattern(2, 2, 3, 1)", 1).row("1")
            .is("pattern(2, 2, 0, 4)", -100).is("pattern(2, 2, 1, 4)", -103).row("1");
        Run x = s.of("P2", "taken as a row of a SORT: its PERIOD;");
        for (int sort = 0; sort < 3; sort++) {
            x.does("sheet(" + sort + ", " + sort + ", 2)", "put(" + sort + ", 0, 52)", "put(" + sort + ", 1, 304)")
                .is("pattern(" + sort + ", " + sort + ", 0, 1)", 1)
                .is("pattern(" + sort + ", " + sort + ", 0, 2)", sort == 0 ? 2 : -101)
                .is("fault()", 0);
        }
        s.of("P2", "-100 less the FIRST FAULT.", "531")
            .text("", -100).text("3x", -101).text("33333333333", -108).row("531").is("many(0)", 3);
        s.of("P2", "UNKNOWN; OUTSIDE: sort;", "531")
            .is("pattern(-1, -1, 0, 3)", -1).is("pattern(4, 3, 0, 3)", -1).is("pattern(min, 0, 0, 3)", -1)
            .is("pattern(max, 0, 0, 3)", -1).is("pattern(0, -1, 0, 3)", -2).is("pattern(0, 3, 0, 3)", -2)
            .is("pattern(3, 3, -1, -1)", -2).is("pattern(3, min, -1, -1)", -2).is("fault()", 0);
    }

    private void patternFaults() {
        s.of("P2", "FAULTS CAST", "531").is("pattern(0, 1, 0, 3)", -12).is("fault()", 2).is("pattern(0, 2, 9, -1)", -12)
            .row("531").does("sheet(0, 2, 3)").is("pattern(0, 0, 0, 3)", -12).is("pattern(0, 1, 0, 3)", -12);
        s.of("P2", "(nothing is no CAST), NULL", "531").is("pattern(1, 0, 0, 3)", -11).is("pattern(1, 1, 0, 3)", -11)
            .is("pattern(1, 2, -1, -1)", -11).is("fault()", 1).does("lose(0)").is("pattern(0, 0, 0, 3)", -11).row("531");
        s.of("P2", "SIZE: n is below 0", "531").is("pattern(0, 0, 0, -1)", -14).is("pattern(0, 0, 9, -1)", -14)
            .is("pattern(0, 0, -1, min)", -14).is("fault()", 4).is("pattern(0, 0, 0, 0)", -100);
        s.of("P2", "INDEX: not all cells are there;", "531")
            .is("pattern(0, 0, 0, 4)", -13).is("pattern(0, 0, 1, 3)", -13).is("pattern(0, 0, 3, 1)", -13)
            .is("pattern(0, 0, -1, 2)", -13).is("pattern(0, 0, 4, 0)", -13).is("pattern(0, 0, -1, 0)", -13)
            .is("pattern(0, 0, max, max)", -13).is("pattern(0, 0, 1, max)", -13).is("pattern(0, 0, min, max)", -13)
            .is("fault()", 3).row("531").is("pattern(0, 0, 2, 1)", 1).is("fault()", 0);
        s.of("P2", "-100 less it.", "531").does("sheet(1, 0, 12)")
            .is("pattern(1, 0, 0, 13)", -13).is("pattern(1, 0, 0, 12)", -100).is("fault()", 0).row("531");
    }

    private void throwOfAndClash() {
        s.of("P3", "THROW of a BEAT.", "90125678").are("throwOf(", 9, 0, 1, 2, 5, 6, 7, 8);
        s.of("P3", "UNKNOWN.").is("throwOf(0)", -1).text("531").is("throwOf(-1)", -1).is("throwOf(3)", -1)
            .is("throwOf(2)", 1).is("throwOf(min)", -1).is("throwOf(max)", -1)
            .text("53124").is("throwOf(4)", 4).text("53").is("throwOf(2)", -1).is("throwOf(4)", -1);
        s.of("P4", "The first CLASH: 10 times i and j;", "44444454").is("clash()", 67)
            .text("01").is("clash()", 1).text("0400000").is("clash()", 15).text("0000430").is("clash()", 1 * 10 + 4);
        s.of("P4", "NONE.", "9").is("clash()", -9).text("12").is("clash()", 1).text("13").is("clash()", -9);
        s.of("P4", "STATE: there is no PATTERN.").is("clash()", -3).text("x", -100).is("clash()", -3)
            .text("3").is("clash()", -9);
    }

    private void good() {
        s.of("P5", "Of a PATTERN: 0 BALLS", "0").is("good(0)", 0).text("97531").is("good(0)", 5).text("9").is("good(0)", 9);
        s.of("P5", "1 the greatest THROW", "0").is("good(1)", 0).text("13579").is("good(1)", 9)
            .text("91357").is("good(1)", 9).text("153").is("good(1)", 5).text("135").is("good(1)", -3)
            .text("315").is("good(1)", 5).text("1").is("good(1)", 1);
        s.of("P5", "2 whether it is PRIME", "3").is("good(2)", 1).text("33").is("good(2)", 0).text("531").is("good(2)", 1)
            .text("52512").is("good(2)", 0).text("0").is("good(2)", 1).text("00").is("good(2)", 0);
        s.of("P5", "3 GROUND (1, 0)", "3").is("good(3)", 1).text("504").is("good(3)", 0).text("0").is("good(3)", 1)
            .text("20").is("good(3)", 1).text("40").is("good(3)", 0).text("9").is("good(3)", 1);
        s.of("P5", "4 how many ORBITS.", "3").is("good(4)", 1).text("88888888").is("good(4)", 8).text("00000000")
            .is("good(4)", 8).text("99999999").is("good(4)", 1).text("441").is("good(4)", 1).text("531").is("good(4)", 2);
        s.of("P5", "OUTSIDE; STATE: it is not GOOD, there is none.")
            .is("good(-1)", -2).is("good(5)", -2).are("good(", -3, -3, -3, -3, -3)
            .text("543").is("good(-1)", -2).is("good(5)", -2).is("good(max)", -2).is("good(min)", -2)
            .are("good(", -3, -3, -3, -3, -3).text("531").is("good(5)", -2).is("good(4)", 2);
    }
}
